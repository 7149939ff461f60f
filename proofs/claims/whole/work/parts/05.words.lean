/-! every word of the tables, by its place -/
theorem x_t1 {w : Cond} (h : w ∈ tables_1_1) (hg : goodWord w = true) : w ∈ lw_big := lw_big_of (List.mem_append_right _ (show w ∈ tables_1 from List.mem_append_left _ h)) hg
theorem x_t2 {w : Cond} (h : w ∈ tables_1_2) (hg : goodWord w = true) : w ∈ lw_big := lw_big_of (List.mem_append_right _ (show w ∈ tables_1 from List.mem_append_right _ (List.mem_append_left _ h))) hg
theorem x_t3 {w : Cond} (h : w ∈ tables_1_3) (hg : goodWord w = true) : w ∈ lw_big := lw_big_of (List.mem_append_right _ (show w ∈ tables_1 from List.mem_append_right _ (List.mem_append_right _ (List.mem_append_left _ h)))) hg
theorem x_t4 {w : Cond} (h : w ∈ tables_1_4) (hg : goodWord w = true) : w ∈ lw_big := lw_big_of (List.mem_append_right _ (show w ∈ tables_1 from List.mem_append_right _ (List.mem_append_right _ (List.mem_append_right _ (List.mem_append_left _ h))))) hg
theorem x_t5 {w : Cond} (h : w ∈ tables_1_5) (hg : goodWord w = true) : w ∈ lw_big := lw_big_of (List.mem_append_right _ (show w ∈ tables_1 from List.mem_append_right _ (List.mem_append_right _ (List.mem_append_right _ (List.mem_append_right _ (List.mem_append_left _ h)))))) hg
theorem x_t6 {w : Cond} (h : w ∈ tables_1_6) (hg : goodWord w = true) : w ∈ lw_big := lw_big_of (List.mem_append_right _ (show w ∈ tables_1 from List.mem_append_right _ (List.mem_append_right _ (List.mem_append_right _ (List.mem_append_right _ (List.mem_append_right _ (List.mem_append_left _ h))))))) hg
theorem x_t7 {w : Cond} (h : w ∈ tables_1_7) (hg : goodWord w = true) : w ∈ lw_big := lw_big_of (List.mem_append_right _ (show w ∈ tables_1 from List.mem_append_right _ (List.mem_append_right _ (List.mem_append_right _ (List.mem_append_right _ (List.mem_append_right _ (List.mem_append_right _ (List.mem_append_left _ h)))))))) hg
theorem x_t8 {w : Cond} (h : w ∈ tables_1_8) (hg : goodWord w = true) : w ∈ lw_big := lw_big_of (List.mem_append_right _ (show w ∈ tables_1 from List.mem_append_right _ (List.mem_append_right _ (List.mem_append_right _ (List.mem_append_right _ (List.mem_append_right _ (List.mem_append_right _ (List.mem_append_right _ (List.mem_append_left _ h))))))))) hg
theorem x_t9 {w : Cond} (h : w ∈ tables_1_9) (hg : goodWord w = true) : w ∈ lw_big := lw_big_of (List.mem_append_right _ (show w ∈ tables_1 from List.mem_append_right _ (List.mem_append_right _ (List.mem_append_right _ (List.mem_append_right _ (List.mem_append_right _ (List.mem_append_right _ (List.mem_append_right _ (List.mem_append_right _ (h)))))))))) hg
theorem x_pr {y : MethodName} {k n : Nat} (h : lw_privs[k]? = some (y, n)) : Cond.selects y.cls y y ∈ lw_big := lw_big_of (List.mem_append_left _ (List.mem_map.mpr ⟨(y, n), List.mem_of_getElem? h, rfl⟩)) rfl
theorem x_uws {C : String} {T : u_T} {N : Nat} (h : ∀ k, k < N → u_lay C T k ∈ lw_big) : ∀ w ∈ u_ws C T N, w ∈ lw_big := by
  intro w hw
  obtain ⟨k, hk, rfl⟩ := List.mem_map.mp hw
  exact h k (List.mem_range.mp hk)
theorem w_1_0 : Cond.initialized "TruckPlatoonsLaw" ∈ lw_big := x_t1 (List.mem_of_getElem? (i := 0) rfl) rfl
theorem w_1_1 : Cond.initialized "TruckPlatoons" ∈ lw_big := x_t1 (List.mem_of_getElem? (i := 1) rfl) rfl
theorem w_1_2 : Cond.initialized "TruckPlatoons$Text" ∈ lw_big := x_t1 (List.mem_of_getElem? (i := 2) rfl) rfl
theorem w_1_3 : Cond.initialized "TruckPlatoons$Fleet" ∈ lw_big := x_t1 (List.mem_of_getElem? (i := 3) rfl) rfl
theorem w_1_4 : Cond.initialized "TruckPlatoons$Loader" ∈ lw_big := x_t1 (List.mem_of_getElem? (i := 4) rfl) rfl
theorem w_1_5 : Cond.initialized "TruckPlatoons$Script" ∈ lw_big := x_t1 (List.mem_of_getElem? (i := 5) rfl) rfl
theorem w_1_6 : Cond.initialized "TruckPlatoons$Routes" ∈ lw_big := x_t1 (List.mem_of_getElem? (i := 6) rfl) rfl
theorem w_1_7 : Cond.initialized "TruckPlatoons$Plan" ∈ lw_big := x_t1 (List.mem_of_getElem? (i := 7) rfl) rfl
theorem w_1_8 : Cond.initialized "TruckPlatoons$Merger" ∈ lw_big := x_t1 (List.mem_of_getElem? (i := 8) rfl) rfl
theorem w_1_9 : Cond.initialized "TruckPlatoons$BestOrder" ∈ lw_big := x_t1 (List.mem_of_getElem? (i := 9) rfl) rfl
theorem w_1_10 : Cond.initialized "TruckPlatoons$History" ∈ lw_big := x_t1 (List.mem_of_getElem? (i := 10) rfl) rfl
theorem w_1_11 : Cond.initialized "TruckPlatoons$Output" ∈ lw_big := x_t1 (List.mem_of_getElem? (i := 11) rfl) rfl
theorem w_1_12 : Cond.initialized "TruckPlatoonsModel" ∈ lw_big := x_t1 (List.mem_of_getElem? (i := 12) rfl) rfl
theorem w_1_13 : Cond.initialized "java/lang/String" ∈ lw_big := x_t1 (List.mem_of_getElem? (i := 13) rfl) rfl
theorem w_1_14 : Cond.initialized "java/lang/StringLatin1" ∈ lw_big := x_t1 (List.mem_of_getElem? (i := 14) rfl) rfl
theorem w_1_15 : Cond.initialized "jdk/internal/util/Preconditions" ∈ lw_big := x_t1 (List.mem_of_getElem? (i := 15) rfl) rfl
theorem w_1_16 : Cond.initialized "java/lang/StringUTF16" ∈ lw_big := x_t1 (List.mem_of_getElem? (i := 16) rfl) rfl
theorem w_1_17 : Cond.initialized "java/lang/System" ∈ lw_big := x_t1 (List.mem_of_getElem? (i := 17) rfl) rfl
theorem w_1_18 : Cond.initialized "java/lang/Math" ∈ lw_big := x_t1 (List.mem_of_getElem? (i := 18) rfl) rfl
theorem w_1_19 : Cond.initialized "java/lang/Integer" ∈ lw_big := x_t1 (List.mem_of_getElem? (i := 19) rfl) rfl
theorem w_1_20 : Cond.initialized "java/lang/Throwable" ∈ lw_big := x_t1 (List.mem_of_getElem? (i := 20) rfl) rfl
theorem w_1_21 : Cond.initialized "java/lang/Exception" ∈ lw_big := x_t1 (List.mem_of_getElem? (i := 21) rfl) rfl
theorem w_1_22 : Cond.initialized "java/lang/RuntimeException" ∈ lw_big := x_t1 (List.mem_of_getElem? (i := 22) rfl) rfl
theorem w_1_23 : Cond.initialized "java/lang/IndexOutOfBoundsException" ∈ lw_big := x_t1 (List.mem_of_getElem? (i := 23) rfl) rfl
theorem w_1_24 : Cond.initialized "java/lang/ArrayIndexOutOfBoundsException" ∈ lw_big := x_t1 (List.mem_of_getElem? (i := 24) rfl) rfl
theorem w_1_25 : Cond.initialized "java/lang/IllegalArgumentException" ∈ lw_big := x_t1 (List.mem_of_getElem? (i := 25) rfl) rfl
theorem w_1_26 : Cond.initialized "java/lang/IllegalStateException" ∈ lw_big := x_t1 (List.mem_of_getElem? (i := 26) rfl) rfl
theorem w_1_27 : Cond.initialized "java/lang/ArithmeticException" ∈ lw_big := x_t1 (List.mem_of_getElem? (i := 27) rfl) rfl
theorem w_1_28 : Cond.initialized "java/lang/Float" ∈ lw_big := x_t1 (List.mem_of_getElem? (i := 28) rfl) rfl
theorem w_1_29 : Cond.classLink "TruckPlatoonsLaw" 8 "TruckPlatoons" ∈ lw_big := x_t1 (List.mem_of_getElem? (i := 29) rfl) rfl
theorem w_1_30 : Cond.instantiable "TruckPlatoons" 12 ∈ lw_big := x_t1 (List.mem_of_getElem? (i := 30) rfl) rfl
theorem w_1_31 : Cond.methodLink "TruckPlatoonsLaw" 112 ⟨"TruckPlatoons", "<init>", "()V"⟩ ∈ lw_big := x_t1 (List.mem_of_getElem? (i := 31) rfl) rfl
theorem w_1_32 : Cond.instanceMethod ⟨"TruckPlatoons", "<init>", "()V"⟩ ∈ lw_big := x_t1 (List.mem_of_getElem? (i := 32) rfl) rfl
theorem w_1_33 : Cond.code ⟨"TruckPlatoons", "<init>", "()V"⟩ prog_1_method_1_code 1 (Option.none : Option Jvm.ClassFile.FieldType) ∈ lw_big := x_t1 (List.mem_of_getElem? (i := 33) rfl) rfl
theorem w_1_34 : Cond.methodLink "TruckPlatoons" 3 ⟨"java/lang/Object", "<init>", "()V"⟩ ∈ lw_big := x_t1 (List.mem_of_getElem? (i := 34) rfl) rfl
theorem w_1_35 : Cond.instanceMethod ⟨"java/lang/Object", "<init>", "()V"⟩ ∈ lw_big := x_t1 (List.mem_of_getElem? (i := 35) rfl) rfl
theorem w_1_36 : Cond.code ⟨"java/lang/Object", "<init>", "()V"⟩ object_method_1_code 1 (Option.none : Option Jvm.ClassFile.FieldType) ∈ lw_big := x_t1 (List.mem_of_getElem? (i := 36) rfl) rfl
theorem w_1_37 : Cond.classLink "TruckPlatoons" 9 "TruckPlatoons$Text" ∈ lw_big := x_t1 (List.mem_of_getElem? (i := 37) rfl) rfl
theorem w_1_38 : Cond.instantiable "TruckPlatoons$Text" 8 ∈ lw_big := x_t1 (List.mem_of_getElem? (i := 38) rfl) rfl
theorem w_1_40 : Cond.instanceMethod ⟨"TruckPlatoons$Text", "<init>", "()V"⟩ ∈ lw_big := x_t1 (List.mem_of_getElem? (i := 40) rfl) rfl
theorem w_1_41 : Cond.code ⟨"TruckPlatoons$Text", "<init>", "()V"⟩ prog_11_method_1_code 1 (Option.none : Option Jvm.ClassFile.FieldType) ∈ lw_big := x_t1 (List.mem_of_getElem? (i := 41) rfl) rfl
theorem w_1_42 : Cond.methodLink "TruckPlatoons$Text" 3 ⟨"java/lang/Object", "<init>", "()V"⟩ ∈ lw_big := x_t1 (List.mem_of_getElem? (i := 42) rfl) rfl
theorem w_1_43 : Cond.fieldLink "TruckPlatoons$Text" 11 "TruckPlatoons$Text" "bytes" "[B" ∈ lw_big := x_t1 (List.mem_of_getElem? (i := 43) rfl) rfl
theorem w_1_44 : Cond.fieldLink "TruckPlatoons$Text" 15 "TruckPlatoons$Text" "length" "I" ∈ lw_big := x_t1 (List.mem_of_getElem? (i := 44) rfl) rfl
theorem w_1_45 : Cond.fieldLink "TruckPlatoons" 94 "TruckPlatoons$Text" "length" "I" ∈ lw_big := x_t1 (List.mem_of_getElem? (i := 45) rfl) rfl
theorem w_1_46 : Cond.fieldLink "TruckPlatoons$Text" 19 "TruckPlatoons$Text" "errorCode" "I" ∈ lw_big := x_t1 (List.mem_of_getElem? (i := 46) rfl) rfl
theorem w_1_47 : Cond.fieldLink "TruckPlatoons" 130 "TruckPlatoons$Text" "errorCode" "I" ∈ lw_big := x_t1 (List.mem_of_getElem? (i := 47) rfl) rfl
theorem w_1_48 : Cond.fieldLink "TruckPlatoons$Text" 22 "TruckPlatoons$Text" "errorPosition" "I" ∈ lw_big := x_t1 (List.mem_of_getElem? (i := 48) rfl) rfl
theorem w_1_49 : Cond.fieldLink "TruckPlatoons" 133 "TruckPlatoons$Text" "errorPosition" "I" ∈ lw_big := x_t1 (List.mem_of_getElem? (i := 49) rfl) rfl
theorem w_1_50 : Cond.fieldLink "TruckPlatoons$Text" 25 "TruckPlatoons$Text" "kind" "I" ∈ lw_big := x_t1 (List.mem_of_getElem? (i := 50) rfl) rfl
theorem w_1_51 : Cond.fieldLink "TruckPlatoons$Loader" 30 "TruckPlatoons$Text" "kind" "I" ∈ lw_big := x_t1 (List.mem_of_getElem? (i := 51) rfl) rfl
theorem w_1_52 : Cond.fieldLink "TruckPlatoons$Script" 27 "TruckPlatoons$Text" "kind" "I" ∈ lw_big := x_t1 (List.mem_of_getElem? (i := 52) rfl) rfl
theorem w_1_53 : Cond.fieldLink "TruckPlatoons$Text" 28 "TruckPlatoons$Text" "begin" "I" ∈ lw_big := x_t1 (List.mem_of_getElem? (i := 53) rfl) rfl
theorem w_1_54 : Cond.fieldLink "TruckPlatoons$Text" 31 "TruckPlatoons$Text" "end" "I" ∈ lw_big := x_t1 (List.mem_of_getElem? (i := 54) rfl) rfl
theorem w_1_55 : Cond.fieldLink "TruckPlatoons$Text" 34 "TruckPlatoons$Text" "value" "I" ∈ lw_big := x_t1 (List.mem_of_getElem? (i := 55) rfl) rfl
theorem w_1_56 : Cond.fieldLink "TruckPlatoons$Loader" 60 "TruckPlatoons$Text" "value" "I" ∈ lw_big := x_t1 (List.mem_of_getElem? (i := 56) rfl) rfl
theorem w_1_57 : Cond.fieldLink "TruckPlatoons$Script" 76 "TruckPlatoons$Text" "value" "I" ∈ lw_big := x_t1 (List.mem_of_getElem? (i := 57) rfl) rfl
theorem w_1_58 : Cond.laysFinal "TruckPlatoons$Text" "TruckPlatoons$Text" "bytes" "[B" ∈ lw_big := x_t1 (List.mem_of_getElem? (i := 58) rfl) rfl
theorem w_1_60 : Cond.lays "TruckPlatoons$Text" "TruckPlatoons$Text" "length" "I" ∈ lw_big := x_t1 (List.mem_of_getElem? (i := 60) rfl) rfl
theorem w_1_62 : Cond.lays "TruckPlatoons$Text" "TruckPlatoons$Text" "errorCode" "I" ∈ lw_big := x_t1 (List.mem_of_getElem? (i := 62) rfl) rfl
theorem w_1_64 : Cond.lays "TruckPlatoons$Text" "TruckPlatoons$Text" "errorPosition" "I" ∈ lw_big := x_t1 (List.mem_of_getElem? (i := 64) rfl) rfl
theorem w_1_66 : Cond.lays "TruckPlatoons$Text" "TruckPlatoons$Text" "kind" "I" ∈ lw_big := x_t1 (List.mem_of_getElem? (i := 66) rfl) rfl
theorem w_1_68 : Cond.lays "TruckPlatoons$Text" "TruckPlatoons$Text" "begin" "I" ∈ lw_big := x_t1 (List.mem_of_getElem? (i := 68) rfl) rfl
theorem w_1_70 : Cond.lays "TruckPlatoons$Text" "TruckPlatoons$Text" "end" "I" ∈ lw_big := x_t1 (List.mem_of_getElem? (i := 70) rfl) rfl
theorem w_1_72 : Cond.lays "TruckPlatoons$Text" "TruckPlatoons$Text" "value" "I" ∈ lw_big := x_t1 (List.mem_of_getElem? (i := 72) rfl) rfl
theorem w_1_76 : Cond.classLink "TruckPlatoons" 16 "TruckPlatoons$Fleet" ∈ lw_big := x_t1 (List.mem_of_getElem? (i := 76) rfl) rfl
theorem w_1_77 : Cond.instantiable "TruckPlatoons$Fleet" 11 ∈ lw_big := x_t1 (List.mem_of_getElem? (i := 77) rfl) rfl
theorem w_1_79 : Cond.instanceMethod ⟨"TruckPlatoons$Fleet", "<init>", "()V"⟩ ∈ lw_big := x_t1 (List.mem_of_getElem? (i := 79) rfl) rfl
theorem w_1_80 : Cond.code ⟨"TruckPlatoons$Fleet", "<init>", "()V"⟩ prog_3_method_1_code 1 (Option.none : Option Jvm.ClassFile.FieldType) ∈ lw_big := x_t1 (List.mem_of_getElem? (i := 80) rfl) rfl
theorem w_1_81 : Cond.methodLink "TruckPlatoons$Fleet" 3 ⟨"java/lang/Object", "<init>", "()V"⟩ ∈ lw_big := x_t1 (List.mem_of_getElem? (i := 81) rfl) rfl
theorem w_1_82 : Cond.fieldLink "TruckPlatoons$Fleet" 9 "TruckPlatoons$Fleet" "roads" "I" ∈ lw_big := x_t1 (List.mem_of_getElem? (i := 82) rfl) rfl
theorem w_1_83 : Cond.fieldLink "TruckPlatoons$Loader" 18 "TruckPlatoons$Fleet" "roads" "I" ∈ lw_big := x_t1 (List.mem_of_getElem? (i := 83) rfl) rfl
theorem w_1_84 : Cond.fieldLink "TruckPlatoons$Routes" 55 "TruckPlatoons$Fleet" "roads" "I" ∈ lw_big := x_t1 (List.mem_of_getElem? (i := 84) rfl) rfl
theorem w_1_85 : Cond.fieldLink "TruckPlatoons$Plan" 102 "TruckPlatoons$Fleet" "roads" "I" ∈ lw_big := x_t1 (List.mem_of_getElem? (i := 85) rfl) rfl
theorem w_1_86 : Cond.fieldLink "TruckPlatoons" 136 "TruckPlatoons$Fleet" "roads" "I" ∈ lw_big := x_t1 (List.mem_of_getElem? (i := 86) rfl) rfl
theorem w_1_87 : Cond.fieldLink "TruckPlatoons$Fleet" 15 "TruckPlatoons$Fleet" "from" "[I" ∈ lw_big := x_t1 (List.mem_of_getElem? (i := 87) rfl) rfl
theorem w_1_88 : Cond.fieldLink "TruckPlatoons$Loader" 56 "TruckPlatoons$Fleet" "from" "[I" ∈ lw_big := x_t1 (List.mem_of_getElem? (i := 88) rfl) rfl
theorem w_1_89 : Cond.fieldLink "TruckPlatoons" 192 "TruckPlatoons$Fleet" "from" "[I" ∈ lw_big := x_t1 (List.mem_of_getElem? (i := 89) rfl) rfl
theorem w_1_90 : Cond.fieldLink "TruckPlatoons$Fleet" 19 "TruckPlatoons$Fleet" "to" "[I" ∈ lw_big := x_t1 (List.mem_of_getElem? (i := 90) rfl) rfl
theorem w_1_91 : Cond.fieldLink "TruckPlatoons$Loader" 63 "TruckPlatoons$Fleet" "to" "[I" ∈ lw_big := x_t1 (List.mem_of_getElem? (i := 91) rfl) rfl
theorem w_1_92 : Cond.fieldLink "TruckPlatoons" 195 "TruckPlatoons$Fleet" "to" "[I" ∈ lw_big := x_t1 (List.mem_of_getElem? (i := 92) rfl) rfl
theorem w_1_93 : Cond.fieldLink "TruckPlatoons$Fleet" 22 "TruckPlatoons$Fleet" "length" "[I" ∈ lw_big := x_t1 (List.mem_of_getElem? (i := 93) rfl) rfl
theorem w_1_94 : Cond.fieldLink "TruckPlatoons$Loader" 66 "TruckPlatoons$Fleet" "length" "[I" ∈ lw_big := x_t1 (List.mem_of_getElem? (i := 94) rfl) rfl
theorem w_1_95 : Cond.fieldLink "TruckPlatoons" 198 "TruckPlatoons$Fleet" "length" "[I" ∈ lw_big := x_t1 (List.mem_of_getElem? (i := 95) rfl) rfl
theorem w_1_96 : Cond.fieldLink "TruckPlatoons$Plan" 165 "TruckPlatoons$Fleet" "length" "[I" ∈ lw_big := x_t1 (List.mem_of_getElem? (i := 96) rfl) rfl
theorem w_1_97 : Cond.fieldLink "TruckPlatoons$Fleet" 25 "TruckPlatoons$Fleet" "limit" "[I" ∈ lw_big := x_t1 (List.mem_of_getElem? (i := 97) rfl) rfl
theorem w_1_98 : Cond.fieldLink "TruckPlatoons$Plan" 80 "TruckPlatoons$Fleet" "limit" "[I" ∈ lw_big := x_t1 (List.mem_of_getElem? (i := 98) rfl) rfl
theorem w_1_99 : Cond.fieldLink "TruckPlatoons$Loader" 69 "TruckPlatoons$Fleet" "limit" "[I" ∈ lw_big := x_t1 (List.mem_of_getElem? (i := 99) rfl) rfl
theorem w_1_100 : Cond.fieldLink "TruckPlatoons" 200 "TruckPlatoons$Fleet" "limit" "[I" ∈ lw_big := x_t1 (List.mem_of_getElem? (i := 100) rfl) rfl
theorem w_1_101 : Cond.fieldLink "TruckPlatoons$Fleet" 28 "TruckPlatoons$Fleet" "trucks" "I" ∈ lw_big := x_t1 (List.mem_of_getElem? (i := 101) rfl) rfl
theorem w_1_102 : Cond.fieldLink "TruckPlatoons$Routes" 32 "TruckPlatoons$Fleet" "trucks" "I" ∈ lw_big := x_t1 (List.mem_of_getElem? (i := 102) rfl) rfl
theorem w_1_103 : Cond.fieldLink "TruckPlatoons$Loader" 22 "TruckPlatoons$Fleet" "trucks" "I" ∈ lw_big := x_t1 (List.mem_of_getElem? (i := 103) rfl) rfl
theorem w_1_104 : Cond.fieldLink "TruckPlatoons$Plan" 72 "TruckPlatoons$Fleet" "trucks" "I" ∈ lw_big := x_t1 (List.mem_of_getElem? (i := 104) rfl) rfl
theorem w_1_105 : Cond.fieldLink "TruckPlatoons" 127 "TruckPlatoons$Fleet" "trucks" "I" ∈ lw_big := x_t1 (List.mem_of_getElem? (i := 105) rfl) rfl
theorem w_1_106 : Cond.fieldLink "TruckPlatoons$Fleet" 31 "TruckPlatoons$Fleet" "firstStart" "[I" ∈ lw_big := x_t1 (List.mem_of_getElem? (i := 106) rfl) rfl
theorem w_1_107 : Cond.fieldLink "TruckPlatoons$Plan" 61 "TruckPlatoons$Fleet" "firstStart" "[I" ∈ lw_big := x_t1 (List.mem_of_getElem? (i := 107) rfl) rfl
theorem w_1_108 : Cond.fieldLink "TruckPlatoons$Loader" 76 "TruckPlatoons$Fleet" "firstStart" "[I" ∈ lw_big := x_t1 (List.mem_of_getElem? (i := 108) rfl) rfl
theorem w_1_109 : Cond.fieldLink "TruckPlatoons$Fleet" 34 "TruckPlatoons$Fleet" "deadline" "[I" ∈ lw_big := x_t1 (List.mem_of_getElem? (i := 109) rfl) rfl
theorem w_1_110 : Cond.fieldLink "TruckPlatoons$Loader" 79 "TruckPlatoons$Fleet" "deadline" "[I" ∈ lw_big := x_t1 (List.mem_of_getElem? (i := 110) rfl) rfl
theorem w_1_111 : Cond.fieldLink "TruckPlatoons" 215 "TruckPlatoons$Fleet" "deadline" "[I" ∈ lw_big := x_t1 (List.mem_of_getElem? (i := 111) rfl) rfl
theorem w_1_112 : Cond.fieldLink "TruckPlatoons$Plan" 162 "TruckPlatoons$Fleet" "deadline" "[I" ∈ lw_big := x_t1 (List.mem_of_getElem? (i := 112) rfl) rfl
theorem w_1_113 : Cond.fieldLink "TruckPlatoons$Fleet" 37 "TruckPlatoons$Fleet" "gap" "[I" ∈ lw_big := x_t1 (List.mem_of_getElem? (i := 113) rfl) rfl
theorem w_1_114 : Cond.fieldLink "TruckPlatoons$Loader" 82 "TruckPlatoons$Fleet" "gap" "[I" ∈ lw_big := x_t1 (List.mem_of_getElem? (i := 114) rfl) rfl
theorem w_1_115 : Cond.fieldLink "TruckPlatoons" 218 "TruckPlatoons$Fleet" "gap" "[I" ∈ lw_big := x_t1 (List.mem_of_getElem? (i := 115) rfl) rfl
theorem w_1_116 : Cond.fieldLink "TruckPlatoons$Plan" 150 "TruckPlatoons$Fleet" "gap" "[I" ∈ lw_big := x_t1 (List.mem_of_getElem? (i := 116) rfl) rfl
theorem w_1_117 : Cond.fieldLink "TruckPlatoons$Fleet" 40 "TruckPlatoons$Fleet" "places" "[I" ∈ lw_big := x_t1 (List.mem_of_getElem? (i := 117) rfl) rfl
theorem w_1_118 : Cond.fieldLink "TruckPlatoons$Merger" 36 "TruckPlatoons$Fleet" "places" "[I" ∈ lw_big := x_t1 (List.mem_of_getElem? (i := 118) rfl) rfl
theorem w_1_119 : Cond.fieldLink "TruckPlatoons$Routes" 38 "TruckPlatoons$Fleet" "places" "[I" ∈ lw_big := x_t1 (List.mem_of_getElem? (i := 119) rfl) rfl
theorem w_1_120 : Cond.fieldLink "TruckPlatoons$Loader" 88 "TruckPlatoons$Fleet" "places" "[I" ∈ lw_big := x_t1 (List.mem_of_getElem? (i := 120) rfl) rfl
theorem w_1_121 : Cond.fieldLink "TruckPlatoons" 221 "TruckPlatoons$Fleet" "places" "[I" ∈ lw_big := x_t1 (List.mem_of_getElem? (i := 121) rfl) rfl
theorem w_1_122 : Cond.fieldLink "TruckPlatoons$Fleet" 43 "TruckPlatoons$Fleet" "route" "[I" ∈ lw_big := x_t1 (List.mem_of_getElem? (i := 122) rfl) rfl
theorem w_1_123 : Cond.fieldLink "TruckPlatoons$Merger" 51 "TruckPlatoons$Fleet" "route" "[I" ∈ lw_big := x_t1 (List.mem_of_getElem? (i := 123) rfl) rfl
theorem w_1_124 : Cond.fieldLink "TruckPlatoons$Plan" 83 "TruckPlatoons$Fleet" "route" "[I" ∈ lw_big := x_t1 (List.mem_of_getElem? (i := 124) rfl) rfl
theorem w_1_125 : Cond.fieldLink "TruckPlatoons$Routes" 58 "TruckPlatoons$Fleet" "route" "[I" ∈ lw_big := x_t1 (List.mem_of_getElem? (i := 125) rfl) rfl
theorem w_1_126 : Cond.fieldLink "TruckPlatoons$Loader" 91 "TruckPlatoons$Fleet" "route" "[I" ∈ lw_big := x_t1 (List.mem_of_getElem? (i := 126) rfl) rfl
theorem w_1_127 : Cond.fieldLink "TruckPlatoons" 246 "TruckPlatoons$Fleet" "route" "[I" ∈ lw_big := x_t1 (List.mem_of_getElem? (i := 127) rfl) rfl
theorem w_1_128 : Cond.lays "TruckPlatoons$Fleet" "TruckPlatoons$Fleet" "roads" "I" ∈ lw_big := x_t1 (List.mem_of_getElem? (i := 128) rfl) rfl
theorem w_1_130 : Cond.laysFinal "TruckPlatoons$Fleet" "TruckPlatoons$Fleet" "from" "[I" ∈ lw_big := x_t1 (List.mem_of_getElem? (i := 130) rfl) rfl
theorem w_1_132 : Cond.laysFinal "TruckPlatoons$Fleet" "TruckPlatoons$Fleet" "to" "[I" ∈ lw_big := x_t1 (List.mem_of_getElem? (i := 132) rfl) rfl
theorem w_1_134 : Cond.laysFinal "TruckPlatoons$Fleet" "TruckPlatoons$Fleet" "length" "[I" ∈ lw_big := x_t1 (List.mem_of_getElem? (i := 134) rfl) rfl
theorem w_1_136 : Cond.laysFinal "TruckPlatoons$Fleet" "TruckPlatoons$Fleet" "limit" "[I" ∈ lw_big := x_t1 (List.mem_of_getElem? (i := 136) rfl) rfl
theorem w_1_138 : Cond.lays "TruckPlatoons$Fleet" "TruckPlatoons$Fleet" "trucks" "I" ∈ lw_big := x_t1 (List.mem_of_getElem? (i := 138) rfl) rfl
theorem w_1_140 : Cond.laysFinal "TruckPlatoons$Fleet" "TruckPlatoons$Fleet" "firstStart" "[I" ∈ lw_big := x_t1 (List.mem_of_getElem? (i := 140) rfl) rfl
theorem w_1_142 : Cond.laysFinal "TruckPlatoons$Fleet" "TruckPlatoons$Fleet" "deadline" "[I" ∈ lw_big := x_t1 (List.mem_of_getElem? (i := 142) rfl) rfl
theorem w_1_144 : Cond.laysFinal "TruckPlatoons$Fleet" "TruckPlatoons$Fleet" "gap" "[I" ∈ lw_big := x_t1 (List.mem_of_getElem? (i := 144) rfl) rfl
theorem w_1_146 : Cond.laysFinal "TruckPlatoons$Fleet" "TruckPlatoons$Fleet" "places" "[I" ∈ lw_big := x_t1 (List.mem_of_getElem? (i := 146) rfl) rfl
theorem w_1_148 : Cond.laysFinal "TruckPlatoons$Fleet" "TruckPlatoons$Fleet" "route" "[I" ∈ lw_big := x_t1 (List.mem_of_getElem? (i := 148) rfl) rfl
theorem w_1_152 : Cond.classLink "TruckPlatoons" 23 "TruckPlatoons$Loader" ∈ lw_big := x_t1 (List.mem_of_getElem? (i := 152) rfl) rfl
theorem w_1_153 : Cond.instantiable "TruckPlatoons$Loader" 1 ∈ lw_big := x_t1 (List.mem_of_getElem? (i := 153) rfl) rfl
theorem w_1_155 : Cond.instanceMethod ⟨"TruckPlatoons$Loader", "<init>", "()V"⟩ ∈ lw_big := x_t1 (List.mem_of_getElem? (i := 155) rfl) rfl
theorem w_1_156 : Cond.code ⟨"TruckPlatoons$Loader", "<init>", "()V"⟩ prog_5_method_1_code 1 (Option.none : Option Jvm.ClassFile.FieldType) ∈ lw_big := x_t1 (List.mem_of_getElem? (i := 156) rfl) rfl
theorem w_1_157 : Cond.methodLink "TruckPlatoons$Loader" 3 ⟨"java/lang/Object", "<init>", "()V"⟩ ∈ lw_big := x_t1 (List.mem_of_getElem? (i := 157) rfl) rfl
theorem w_1_158 : Cond.classLink "TruckPlatoons$Loader" 9 "TruckPlatoons$Fleet" ∈ lw_big := x_t1 (List.mem_of_getElem? (i := 158) rfl) rfl
theorem w_1_160 : Cond.fieldLink "TruckPlatoons$Loader" 12 "TruckPlatoons$Loader" "draft" "LTruckPlatoons$Fleet;" ∈ lw_big := x_t1 (List.mem_of_getElem? (i := 160) rfl) rfl
theorem w_1_161 : Cond.fieldLink "TruckPlatoons" 109 "TruckPlatoons$Loader" "draft" "LTruckPlatoons$Fleet;" ∈ lw_big := x_t1 (List.mem_of_getElem? (i := 161) rfl) rfl
theorem w_1_162 : Cond.laysFinal "TruckPlatoons$Loader" "TruckPlatoons$Loader" "draft" "LTruckPlatoons$Fleet;" ∈ lw_big := x_t1 (List.mem_of_getElem? (i := 162) rfl) rfl
theorem w_1_165 : Cond.classLink "TruckPlatoons" 30 "TruckPlatoons$Script" ∈ lw_big := x_t1 (List.mem_of_getElem? (i := 165) rfl) rfl
theorem w_1_166 : Cond.instantiable "TruckPlatoons$Script" 3 ∈ lw_big := x_t1 (List.mem_of_getElem? (i := 166) rfl) rfl
theorem w_1_168 : Cond.instanceMethod ⟨"TruckPlatoons$Script", "<init>", "()V"⟩ ∈ lw_big := x_t1 (List.mem_of_getElem? (i := 168) rfl) rfl
theorem w_1_169 : Cond.code ⟨"TruckPlatoons$Script", "<init>", "()V"⟩ prog_10_method_1_code 1 (Option.none : Option Jvm.ClassFile.FieldType) ∈ lw_big := x_t1 (List.mem_of_getElem? (i := 169) rfl) rfl
theorem w_1_170 : Cond.methodLink "TruckPlatoons$Script" 3 ⟨"java/lang/Object", "<init>", "()V"⟩ ∈ lw_big := x_t1 (List.mem_of_getElem? (i := 170) rfl) rfl
theorem w_1_171 : Cond.fieldLink "TruckPlatoons$Script" 9 "TruckPlatoons$Script" "commands" "I" ∈ lw_big := x_t1 (List.mem_of_getElem? (i := 171) rfl) rfl
theorem w_1_172 : Cond.fieldLink "TruckPlatoons" 432 "TruckPlatoons$Script" "commands" "I" ∈ lw_big := x_t1 (List.mem_of_getElem? (i := 172) rfl) rfl
theorem w_1_173 : Cond.fieldLink "TruckPlatoons$Script" 15 "TruckPlatoons$Script" "words" "[I" ∈ lw_big := x_t1 (List.mem_of_getElem? (i := 173) rfl) rfl
theorem w_1_174 : Cond.fieldLink "TruckPlatoons$Script" 19 "TruckPlatoons$Script" "arguments" "[I" ∈ lw_big := x_t1 (List.mem_of_getElem? (i := 174) rfl) rfl
theorem w_1_175 : Cond.lays "TruckPlatoons$Script" "TruckPlatoons$Script" "commands" "I" ∈ lw_big := x_t1 (List.mem_of_getElem? (i := 175) rfl) rfl
theorem w_1_177 : Cond.laysFinal "TruckPlatoons$Script" "TruckPlatoons$Script" "words" "[I" ∈ lw_big := x_t1 (List.mem_of_getElem? (i := 177) rfl) rfl
theorem w_1_179 : Cond.laysFinal "TruckPlatoons$Script" "TruckPlatoons$Script" "arguments" "[I" ∈ lw_big := x_t1 (List.mem_of_getElem? (i := 179) rfl) rfl
theorem w_1_182 : Cond.classLink "TruckPlatoons" 37 "TruckPlatoons$Routes" ∈ lw_big := x_t1 (List.mem_of_getElem? (i := 182) rfl) rfl
theorem w_1_183 : Cond.instantiable "TruckPlatoons$Routes" 6 ∈ lw_big := x_t1 (List.mem_of_getElem? (i := 183) rfl) rfl
theorem w_1_184 : Cond.methodLink "TruckPlatoons" 39 ⟨"TruckPlatoons$Routes", "<init>", "(LTruckPlatoons$Fleet;)V"⟩ ∈ lw_big := x_t1 (List.mem_of_getElem? (i := 184) rfl) rfl
theorem w_1_185 : Cond.instanceMethod ⟨"TruckPlatoons$Routes", "<init>", "(LTruckPlatoons$Fleet;)V"⟩ ∈ lw_big := x_t1 (List.mem_of_getElem? (i := 185) rfl) rfl
theorem w_1_186 : Cond.code ⟨"TruckPlatoons$Routes", "<init>", "(LTruckPlatoons$Fleet;)V"⟩ prog_9_method_1_code 2 (Option.none : Option Jvm.ClassFile.FieldType) ∈ lw_big := x_t1 (List.mem_of_getElem? (i := 186) rfl) rfl
theorem w_1_187 : Cond.methodLink "TruckPlatoons$Routes" 3 ⟨"java/lang/Object", "<init>", "()V"⟩ ∈ lw_big := x_t1 (List.mem_of_getElem? (i := 187) rfl) rfl
theorem w_1_188 : Cond.fieldLink "TruckPlatoons$Routes" 28 "TruckPlatoons$Routes" "fleet" "LTruckPlatoons$Fleet;" ∈ lw_big := x_t1 (List.mem_of_getElem? (i := 188) rfl) rfl
theorem w_1_189 : Cond.fieldLink "TruckPlatoons$Routes" 9 "TruckPlatoons$Routes" "byRoad" "[I" ∈ lw_big := x_t1 (List.mem_of_getElem? (i := 189) rfl) rfl
theorem w_1_190 : Cond.fieldLink "TruckPlatoons$Plan" 92 "TruckPlatoons$Routes" "byRoad" "[I" ∈ lw_big := x_t1 (List.mem_of_getElem? (i := 190) rfl) rfl
theorem w_1_191 : Cond.fieldLink "TruckPlatoons$Routes" 15 "TruckPlatoons$Routes" "begin" "[I" ∈ lw_big := x_t1 (List.mem_of_getElem? (i := 191) rfl) rfl
theorem w_1_192 : Cond.fieldLink "TruckPlatoons$Plan" 105 "TruckPlatoons$Routes" "begin" "[I" ∈ lw_big := x_t1 (List.mem_of_getElem? (i := 192) rfl) rfl
theorem w_1_193 : Cond.fieldLink "TruckPlatoons" 383 "TruckPlatoons$Routes" "begin" "[I" ∈ lw_big := x_t1 (List.mem_of_getElem? (i := 193) rfl) rfl
theorem w_1_194 : Cond.fieldLink "TruckPlatoons$Routes" 18 "TruckPlatoons$Routes" "after" "[I" ∈ lw_big := x_t1 (List.mem_of_getElem? (i := 194) rfl) rfl
theorem w_1_195 : Cond.fieldLink "TruckPlatoons$Merger" 46 "TruckPlatoons$Routes" "after" "[I" ∈ lw_big := x_t1 (List.mem_of_getElem? (i := 195) rfl) rfl
theorem w_1_196 : Cond.fieldLink "TruckPlatoons$Plan" 75 "TruckPlatoons$Routes" "after" "[I" ∈ lw_big := x_t1 (List.mem_of_getElem? (i := 196) rfl) rfl
theorem w_1_197 : Cond.fieldLink "TruckPlatoons" 301 "TruckPlatoons$Routes" "after" "[I" ∈ lw_big := x_t1 (List.mem_of_getElem? (i := 197) rfl) rfl
theorem w_1_198 : Cond.fieldLink "TruckPlatoons$Routes" 21 "TruckPlatoons$Routes" "next" "[I" ∈ lw_big := x_t1 (List.mem_of_getElem? (i := 198) rfl) rfl
theorem w_1_199 : Cond.fieldLink "TruckPlatoons$Plan" 153 "TruckPlatoons$Routes" "next" "[I" ∈ lw_big := x_t1 (List.mem_of_getElem? (i := 199) rfl) rfl
theorem w_1_200 : Cond.fieldLink "TruckPlatoons$Routes" 24 "TruckPlatoons$Routes" "shared" "[J" ∈ lw_big := x_t1 (List.mem_of_getElem? (i := 200) rfl) rfl
theorem w_1_201 : Cond.laysFinal "TruckPlatoons$Routes" "TruckPlatoons$Routes" "fleet" "LTruckPlatoons$Fleet;" ∈ lw_big := x_t1 (List.mem_of_getElem? (i := 201) rfl) rfl
theorem w_1_203 : Cond.laysFinal "TruckPlatoons$Routes" "TruckPlatoons$Routes" "byRoad" "[I" ∈ lw_big := x_t1 (List.mem_of_getElem? (i := 203) rfl) rfl
theorem w_1_205 : Cond.laysFinal "TruckPlatoons$Routes" "TruckPlatoons$Routes" "begin" "[I" ∈ lw_big := x_t1 (List.mem_of_getElem? (i := 205) rfl) rfl
theorem w_1_207 : Cond.laysFinal "TruckPlatoons$Routes" "TruckPlatoons$Routes" "after" "[I" ∈ lw_big := x_t1 (List.mem_of_getElem? (i := 207) rfl) rfl
theorem w_1_209 : Cond.laysFinal "TruckPlatoons$Routes" "TruckPlatoons$Routes" "next" "[I" ∈ lw_big := x_t1 (List.mem_of_getElem? (i := 209) rfl) rfl
theorem w_1_211 : Cond.laysFinal "TruckPlatoons$Routes" "TruckPlatoons$Routes" "shared" "[J" ∈ lw_big := x_t1 (List.mem_of_getElem? (i := 211) rfl) rfl
theorem w_1_215 : Cond.classLink "TruckPlatoons" 46 "TruckPlatoons$Plan" ∈ lw_big := x_t1 (List.mem_of_getElem? (i := 215) rfl) rfl
theorem w_1_216 : Cond.instantiable "TruckPlatoons$Plan" 15 ∈ lw_big := x_t1 (List.mem_of_getElem? (i := 216) rfl) rfl
theorem w_1_217 : Cond.methodLink "TruckPlatoons" 48 ⟨"TruckPlatoons$Plan", "<init>", "(LTruckPlatoons$Fleet;LTruckPlatoons$Routes;)V"⟩ ∈ lw_big := x_t1 (List.mem_of_getElem? (i := 217) rfl) rfl
theorem w_1_218 : Cond.instanceMethod ⟨"TruckPlatoons$Plan", "<init>", "(LTruckPlatoons$Fleet;LTruckPlatoons$Routes;)V"⟩ ∈ lw_big := x_t1 (List.mem_of_getElem? (i := 218) rfl) rfl
theorem w_1_219 : Cond.code ⟨"TruckPlatoons$Plan", "<init>", "(LTruckPlatoons$Fleet;LTruckPlatoons$Routes;)V"⟩ prog_8_method_1_code 3 (Option.none : Option Jvm.ClassFile.FieldType) ∈ lw_big := x_t1 (List.mem_of_getElem? (i := 219) rfl) rfl
theorem w_1_220 : Cond.methodLink "TruckPlatoons$Plan" 3 ⟨"java/lang/Object", "<init>", "()V"⟩ ∈ lw_big := x_t1 (List.mem_of_getElem? (i := 220) rfl) rfl
theorem w_1_221 : Cond.fieldLink "TruckPlatoons$Plan" 53 "TruckPlatoons$Plan" "fleet" "LTruckPlatoons$Fleet;" ∈ lw_big := x_t1 (List.mem_of_getElem? (i := 221) rfl) rfl
theorem w_1_222 : Cond.fieldLink "TruckPlatoons$Plan" 57 "TruckPlatoons$Plan" "routes" "LTruckPlatoons$Routes;" ∈ lw_big := x_t1 (List.mem_of_getElem? (i := 222) rfl) rfl
theorem w_1_223 : Cond.fieldLink "TruckPlatoons$Plan" 9 "TruckPlatoons$Plan" "start" "[I" ∈ lw_big := x_t1 (List.mem_of_getElem? (i := 223) rfl) rfl
theorem w_1_224 : Cond.fieldLink "TruckPlatoons" 212 "TruckPlatoons$Plan" "start" "[I" ∈ lw_big := x_t1 (List.mem_of_getElem? (i := 224) rfl) rfl
theorem w_1_225 : Cond.fieldLink "TruckPlatoons$Plan" 15 "TruckPlatoons$Plan" "wait" "[I" ∈ lw_big := x_t1 (List.mem_of_getElem? (i := 225) rfl) rfl
theorem w_1_226 : Cond.fieldLink "TruckPlatoons$Merger" 94 "TruckPlatoons$Plan" "wait" "[I" ∈ lw_big := x_t1 (List.mem_of_getElem? (i := 226) rfl) rfl
theorem w_1_227 : Cond.fieldLink "TruckPlatoons" 249 "TruckPlatoons$Plan" "wait" "[I" ∈ lw_big := x_t1 (List.mem_of_getElem? (i := 227) rfl) rfl
theorem w_1_228 : Cond.fieldLink "TruckPlatoons$Plan" 18 "TruckPlatoons$Plan" "speed" "[I" ∈ lw_big := x_t1 (List.mem_of_getElem? (i := 228) rfl) rfl
theorem w_1_229 : Cond.fieldLink "TruckPlatoons$Merger" 88 "TruckPlatoons$Plan" "speed" "[I" ∈ lw_big := x_t1 (List.mem_of_getElem? (i := 229) rfl) rfl
theorem w_1_230 : Cond.fieldLink "TruckPlatoons" 252 "TruckPlatoons$Plan" "speed" "[I" ∈ lw_big := x_t1 (List.mem_of_getElem? (i := 230) rfl) rfl
theorem w_1_231 : Cond.fieldLink "TruckPlatoons$Plan" 21 "TruckPlatoons$Plan" "enter" "[I" ∈ lw_big := x_t1 (List.mem_of_getElem? (i := 231) rfl) rfl
theorem w_1_232 : Cond.fieldLink "TruckPlatoons" 258 "TruckPlatoons$Plan" "enter" "[I" ∈ lw_big := x_t1 (List.mem_of_getElem? (i := 232) rfl) rfl
theorem w_1_233 : Cond.fieldLink "TruckPlatoons$Plan" 24 "TruckPlatoons$Plan" "leave" "[I" ∈ lw_big := x_t1 (List.mem_of_getElem? (i := 233) rfl) rfl
theorem w_1_234 : Cond.fieldLink "TruckPlatoons" 261 "TruckPlatoons$Plan" "leave" "[I" ∈ lw_big := x_t1 (List.mem_of_getElem? (i := 234) rfl) rfl
theorem w_1_235 : Cond.fieldLink "TruckPlatoons$Plan" 27 "TruckPlatoons$Plan" "row" "[I" ∈ lw_big := x_t1 (List.mem_of_getElem? (i := 235) rfl) rfl
theorem w_1_236 : Cond.fieldLink "TruckPlatoons$BestOrder" 55 "TruckPlatoons$Plan" "row" "[I" ∈ lw_big := x_t1 (List.mem_of_getElem? (i := 236) rfl) rfl
theorem w_1_237 : Cond.fieldLink "TruckPlatoons" 171 "TruckPlatoons$Plan" "row" "[I" ∈ lw_big := x_t1 (List.mem_of_getElem? (i := 237) rfl) rfl
theorem w_1_238 : Cond.fieldLink "TruckPlatoons$Plan" 30 "TruckPlatoons$Plan" "number" "[I" ∈ lw_big := x_t1 (List.mem_of_getElem? (i := 238) rfl) rfl
theorem w_1_239 : Cond.fieldLink "TruckPlatoons" 280 "TruckPlatoons$Plan" "number" "[I" ∈ lw_big := x_t1 (List.mem_of_getElem? (i := 239) rfl) rfl
theorem w_2_0 : Cond.fieldLink "TruckPlatoons$Plan" 33 "TruckPlatoons$Plan" "position" "[I" ∈ lw_big := x_t2 (List.mem_of_getElem? (i := 0) rfl) rfl
theorem w_2_1 : Cond.fieldLink "TruckPlatoons" 174 "TruckPlatoons$Plan" "position" "[I" ∈ lw_big := x_t2 (List.mem_of_getElem? (i := 1) rfl) rfl
theorem w_2_2 : Cond.fieldLink "TruckPlatoons$Plan" 36 "TruckPlatoons$Plan" "key" "[I" ∈ lw_big := x_t2 (List.mem_of_getElem? (i := 2) rfl) rfl
theorem w_2_3 : Cond.fieldLink "TruckPlatoons" 283 "TruckPlatoons$Plan" "key" "[I" ∈ lw_big := x_t2 (List.mem_of_getElem? (i := 3) rfl) rfl
theorem w_2_4 : Cond.fieldLink "TruckPlatoons$Plan" 39 "TruckPlatoons$Plan" "distance" "[I" ∈ lw_big := x_t2 (List.mem_of_getElem? (i := 4) rfl) rfl
theorem w_2_5 : Cond.fieldLink "TruckPlatoons" 277 "TruckPlatoons$Plan" "distance" "[I" ∈ lw_big := x_t2 (List.mem_of_getElem? (i := 5) rfl) rfl
theorem w_2_6 : Cond.fieldLink "TruckPlatoons$Plan" 42 "TruckPlatoons$Plan" "saved" "[I" ∈ lw_big := x_t2 (List.mem_of_getElem? (i := 6) rfl) rfl
theorem w_2_7 : Cond.fieldLink "TruckPlatoons" 267 "TruckPlatoons$Plan" "saved" "[I" ∈ lw_big := x_t2 (List.mem_of_getElem? (i := 7) rfl) rfl
theorem w_2_8 : Cond.fieldLink "TruckPlatoons$Plan" 45 "TruckPlatoons$Plan" "closes" "[Z" ∈ lw_big := x_t2 (List.mem_of_getElem? (i := 8) rfl) rfl
theorem w_2_9 : Cond.fieldLink "TruckPlatoons" 273 "TruckPlatoons$Plan" "closes" "[Z" ∈ lw_big := x_t2 (List.mem_of_getElem? (i := 9) rfl) rfl
theorem w_2_10 : Cond.fieldLink "TruckPlatoons$Plan" 49 "TruckPlatoons$Plan" "allFuel" "I" ∈ lw_big := x_t2 (List.mem_of_getElem? (i := 10) rfl) rfl
theorem w_2_11 : Cond.fieldLink "TruckPlatoons" 155 "TruckPlatoons$Plan" "allFuel" "I" ∈ lw_big := x_t2 (List.mem_of_getElem? (i := 11) rfl) rfl
theorem w_2_12 : Cond.laysFinal "TruckPlatoons$Plan" "TruckPlatoons$Plan" "fleet" "LTruckPlatoons$Fleet;" ∈ lw_big := x_t2 (List.mem_of_getElem? (i := 12) rfl) rfl
theorem w_2_14 : Cond.laysFinal "TruckPlatoons$Plan" "TruckPlatoons$Plan" "routes" "LTruckPlatoons$Routes;" ∈ lw_big := x_t2 (List.mem_of_getElem? (i := 14) rfl) rfl
theorem w_2_16 : Cond.laysFinal "TruckPlatoons$Plan" "TruckPlatoons$Plan" "start" "[I" ∈ lw_big := x_t2 (List.mem_of_getElem? (i := 16) rfl) rfl
theorem w_2_18 : Cond.laysFinal "TruckPlatoons$Plan" "TruckPlatoons$Plan" "wait" "[I" ∈ lw_big := x_t2 (List.mem_of_getElem? (i := 18) rfl) rfl
theorem w_2_20 : Cond.laysFinal "TruckPlatoons$Plan" "TruckPlatoons$Plan" "speed" "[I" ∈ lw_big := x_t2 (List.mem_of_getElem? (i := 20) rfl) rfl
theorem w_2_22 : Cond.laysFinal "TruckPlatoons$Plan" "TruckPlatoons$Plan" "enter" "[I" ∈ lw_big := x_t2 (List.mem_of_getElem? (i := 22) rfl) rfl
theorem w_2_24 : Cond.laysFinal "TruckPlatoons$Plan" "TruckPlatoons$Plan" "leave" "[I" ∈ lw_big := x_t2 (List.mem_of_getElem? (i := 24) rfl) rfl
theorem w_2_26 : Cond.laysFinal "TruckPlatoons$Plan" "TruckPlatoons$Plan" "row" "[I" ∈ lw_big := x_t2 (List.mem_of_getElem? (i := 26) rfl) rfl
theorem w_2_28 : Cond.laysFinal "TruckPlatoons$Plan" "TruckPlatoons$Plan" "number" "[I" ∈ lw_big := x_t2 (List.mem_of_getElem? (i := 28) rfl) rfl
theorem w_2_30 : Cond.laysFinal "TruckPlatoons$Plan" "TruckPlatoons$Plan" "position" "[I" ∈ lw_big := x_t2 (List.mem_of_getElem? (i := 30) rfl) rfl
theorem w_2_32 : Cond.laysFinal "TruckPlatoons$Plan" "TruckPlatoons$Plan" "key" "[I" ∈ lw_big := x_t2 (List.mem_of_getElem? (i := 32) rfl) rfl
theorem w_2_34 : Cond.laysFinal "TruckPlatoons$Plan" "TruckPlatoons$Plan" "distance" "[I" ∈ lw_big := x_t2 (List.mem_of_getElem? (i := 34) rfl) rfl
theorem w_2_36 : Cond.laysFinal "TruckPlatoons$Plan" "TruckPlatoons$Plan" "saved" "[I" ∈ lw_big := x_t2 (List.mem_of_getElem? (i := 36) rfl) rfl
theorem w_2_38 : Cond.laysFinal "TruckPlatoons$Plan" "TruckPlatoons$Plan" "closes" "[Z" ∈ lw_big := x_t2 (List.mem_of_getElem? (i := 38) rfl) rfl
theorem w_2_40 : Cond.lays "TruckPlatoons$Plan" "TruckPlatoons$Plan" "allFuel" "I" ∈ lw_big := x_t2 (List.mem_of_getElem? (i := 40) rfl) rfl
theorem w_2_44 : Cond.classLink "TruckPlatoons" 58 "TruckPlatoons$Merger" ∈ lw_big := x_t2 (List.mem_of_getElem? (i := 44) rfl) rfl
theorem w_2_45 : Cond.instantiable "TruckPlatoons$Merger" 7 ∈ lw_big := x_t2 (List.mem_of_getElem? (i := 45) rfl) rfl
theorem w_2_46 : Cond.methodLink "TruckPlatoons" 60 ⟨"TruckPlatoons$Merger", "<init>", "(LTruckPlatoons$Fleet;LTruckPlatoons$Routes;LTruckPlatoons$Plan;LTruckPlatoons$Plan;)V"⟩ ∈ lw_big := x_t2 (List.mem_of_getElem? (i := 46) rfl) rfl
theorem w_2_47 : Cond.instanceMethod ⟨"TruckPlatoons$Merger", "<init>", "(LTruckPlatoons$Fleet;LTruckPlatoons$Routes;LTruckPlatoons$Plan;LTruckPlatoons$Plan;)V"⟩ ∈ lw_big := x_t2 (List.mem_of_getElem? (i := 47) rfl) rfl
theorem w_2_48 : Cond.code ⟨"TruckPlatoons$Merger", "<init>", "(LTruckPlatoons$Fleet;LTruckPlatoons$Routes;LTruckPlatoons$Plan;LTruckPlatoons$Plan;)V"⟩ prog_6_method_1_code 5 (Option.none : Option Jvm.ClassFile.FieldType) ∈ lw_big := x_t2 (List.mem_of_getElem? (i := 48) rfl) rfl
theorem w_2_49 : Cond.methodLink "TruckPlatoons$Merger" 3 ⟨"java/lang/Object", "<init>", "()V"⟩ ∈ lw_big := x_t2 (List.mem_of_getElem? (i := 49) rfl) rfl
theorem w_2_50 : Cond.fieldLink "TruckPlatoons$Merger" 21 "TruckPlatoons$Merger" "fleet" "LTruckPlatoons$Fleet;" ∈ lw_big := x_t2 (List.mem_of_getElem? (i := 50) rfl) rfl
theorem w_2_51 : Cond.fieldLink "TruckPlatoons$Merger" 25 "TruckPlatoons$Merger" "routes" "LTruckPlatoons$Routes;" ∈ lw_big := x_t2 (List.mem_of_getElem? (i := 51) rfl) rfl
theorem w_2_52 : Cond.fieldLink "TruckPlatoons$Merger" 29 "TruckPlatoons$Merger" "plan" "LTruckPlatoons$Plan;" ∈ lw_big := x_t2 (List.mem_of_getElem? (i := 52) rfl) rfl
theorem w_2_53 : Cond.fieldLink "TruckPlatoons$Merger" 33 "TruckPlatoons$Merger" "trial" "LTruckPlatoons$Plan;" ∈ lw_big := x_t2 (List.mem_of_getElem? (i := 53) rfl) rfl
theorem w_2_54 : Cond.fieldLink "TruckPlatoons$Merger" 9 "TruckPlatoons$Merger" "placeOfOne" "I" ∈ lw_big := x_t2 (List.mem_of_getElem? (i := 54) rfl) rfl
theorem w_2_55 : Cond.fieldLink "TruckPlatoons" 318 "TruckPlatoons$Merger" "placeOfOne" "I" ∈ lw_big := x_t2 (List.mem_of_getElem? (i := 55) rfl) rfl
theorem w_2_56 : Cond.fieldLink "TruckPlatoons$Merger" 15 "TruckPlatoons$Merger" "placeOfOther" "I" ∈ lw_big := x_t2 (List.mem_of_getElem? (i := 56) rfl) rfl
theorem w_2_57 : Cond.fieldLink "TruckPlatoons" 321 "TruckPlatoons$Merger" "placeOfOther" "I" ∈ lw_big := x_t2 (List.mem_of_getElem? (i := 57) rfl) rfl
theorem w_2_58 : Cond.fieldLink "TruckPlatoons$Merger" 18 "TruckPlatoons$Merger" "runLength" "I" ∈ lw_big := x_t2 (List.mem_of_getElem? (i := 58) rfl) rfl
theorem w_2_59 : Cond.fieldLink "TruckPlatoons" 324 "TruckPlatoons$Merger" "runLength" "I" ∈ lw_big := x_t2 (List.mem_of_getElem? (i := 59) rfl) rfl
theorem w_2_60 : Cond.laysFinal "TruckPlatoons$Merger" "TruckPlatoons$Merger" "fleet" "LTruckPlatoons$Fleet;" ∈ lw_big := x_t2 (List.mem_of_getElem? (i := 60) rfl) rfl
theorem w_2_62 : Cond.laysFinal "TruckPlatoons$Merger" "TruckPlatoons$Merger" "routes" "LTruckPlatoons$Routes;" ∈ lw_big := x_t2 (List.mem_of_getElem? (i := 62) rfl) rfl
theorem w_2_64 : Cond.laysFinal "TruckPlatoons$Merger" "TruckPlatoons$Merger" "plan" "LTruckPlatoons$Plan;" ∈ lw_big := x_t2 (List.mem_of_getElem? (i := 64) rfl) rfl
theorem w_2_66 : Cond.laysFinal "TruckPlatoons$Merger" "TruckPlatoons$Merger" "trial" "LTruckPlatoons$Plan;" ∈ lw_big := x_t2 (List.mem_of_getElem? (i := 66) rfl) rfl
theorem w_2_68 : Cond.lays "TruckPlatoons$Merger" "TruckPlatoons$Merger" "placeOfOne" "I" ∈ lw_big := x_t2 (List.mem_of_getElem? (i := 68) rfl) rfl
theorem w_2_70 : Cond.lays "TruckPlatoons$Merger" "TruckPlatoons$Merger" "placeOfOther" "I" ∈ lw_big := x_t2 (List.mem_of_getElem? (i := 70) rfl) rfl
theorem w_2_72 : Cond.lays "TruckPlatoons$Merger" "TruckPlatoons$Merger" "runLength" "I" ∈ lw_big := x_t2 (List.mem_of_getElem? (i := 72) rfl) rfl
theorem w_2_75 : Cond.classLink "TruckPlatoons" 67 "TruckPlatoons$BestOrder" ∈ lw_big := x_t2 (List.mem_of_getElem? (i := 75) rfl) rfl
theorem w_2_76 : Cond.instantiable "TruckPlatoons$BestOrder" 5 ∈ lw_big := x_t2 (List.mem_of_getElem? (i := 76) rfl) rfl
theorem w_2_77 : Cond.methodLink "TruckPlatoons" 69 ⟨"TruckPlatoons$BestOrder", "<init>", "(LTruckPlatoons$Plan;)V"⟩ ∈ lw_big := x_t2 (List.mem_of_getElem? (i := 77) rfl) rfl
theorem w_2_78 : Cond.instanceMethod ⟨"TruckPlatoons$BestOrder", "<init>", "(LTruckPlatoons$Plan;)V"⟩ ∈ lw_big := x_t2 (List.mem_of_getElem? (i := 78) rfl) rfl
theorem w_2_79 : Cond.code ⟨"TruckPlatoons$BestOrder", "<init>", "(LTruckPlatoons$Plan;)V"⟩ prog_2_method_1_code 2 (Option.none : Option Jvm.ClassFile.FieldType) ∈ lw_big := x_t2 (List.mem_of_getElem? (i := 79) rfl) rfl
theorem w_2_80 : Cond.methodLink "TruckPlatoons$BestOrder" 3 ⟨"java/lang/Object", "<init>", "()V"⟩ ∈ lw_big := x_t2 (List.mem_of_getElem? (i := 80) rfl) rfl
theorem w_2_81 : Cond.fieldLink "TruckPlatoons$BestOrder" 25 "TruckPlatoons$BestOrder" "plan" "LTruckPlatoons$Plan;" ∈ lw_big := x_t2 (List.mem_of_getElem? (i := 81) rfl) rfl
theorem w_2_82 : Cond.fieldLink "TruckPlatoons$BestOrder" 9 "TruckPlatoons$BestOrder" "order" "[I" ∈ lw_big := x_t2 (List.mem_of_getElem? (i := 82) rfl) rfl
theorem w_2_83 : Cond.fieldLink "TruckPlatoons$BestOrder" 15 "TruckPlatoons$BestOrder" "members" "I" ∈ lw_big := x_t2 (List.mem_of_getElem? (i := 83) rfl) rfl
theorem w_2_84 : Cond.fieldLink "TruckPlatoons$BestOrder" 19 "TruckPlatoons$BestOrder" "best" "[I" ∈ lw_big := x_t2 (List.mem_of_getElem? (i := 84) rfl) rfl
theorem w_2_85 : Cond.fieldLink "TruckPlatoons" 401 "TruckPlatoons$BestOrder" "best" "[I" ∈ lw_big := x_t2 (List.mem_of_getElem? (i := 85) rfl) rfl
theorem w_2_86 : Cond.fieldLink "TruckPlatoons$BestOrder" 22 "TruckPlatoons$BestOrder" "value" "I" ∈ lw_big := x_t2 (List.mem_of_getElem? (i := 86) rfl) rfl
theorem w_2_87 : Cond.fieldLink "TruckPlatoons" 394 "TruckPlatoons$BestOrder" "value" "I" ∈ lw_big := x_t2 (List.mem_of_getElem? (i := 87) rfl) rfl
theorem w_2_88 : Cond.laysFinal "TruckPlatoons$BestOrder" "TruckPlatoons$BestOrder" "plan" "LTruckPlatoons$Plan;" ∈ lw_big := x_t2 (List.mem_of_getElem? (i := 88) rfl) rfl
theorem w_2_90 : Cond.laysFinal "TruckPlatoons$BestOrder" "TruckPlatoons$BestOrder" "order" "[I" ∈ lw_big := x_t2 (List.mem_of_getElem? (i := 90) rfl) rfl
theorem w_2_92 : Cond.lays "TruckPlatoons$BestOrder" "TruckPlatoons$BestOrder" "members" "I" ∈ lw_big := x_t2 (List.mem_of_getElem? (i := 92) rfl) rfl
theorem w_2_94 : Cond.laysFinal "TruckPlatoons$BestOrder" "TruckPlatoons$BestOrder" "best" "[I" ∈ lw_big := x_t2 (List.mem_of_getElem? (i := 94) rfl) rfl
theorem w_2_96 : Cond.lays "TruckPlatoons$BestOrder" "TruckPlatoons$BestOrder" "value" "I" ∈ lw_big := x_t2 (List.mem_of_getElem? (i := 96) rfl) rfl
theorem w_2_99 : Cond.classLink "TruckPlatoons" 76 "TruckPlatoons$History" ∈ lw_big := x_t2 (List.mem_of_getElem? (i := 99) rfl) rfl
theorem w_2_100 : Cond.instantiable "TruckPlatoons$History" 5 ∈ lw_big := x_t2 (List.mem_of_getElem? (i := 100) rfl) rfl
theorem w_2_102 : Cond.instanceMethod ⟨"TruckPlatoons$History", "<init>", "()V"⟩ ∈ lw_big := x_t2 (List.mem_of_getElem? (i := 102) rfl) rfl
theorem w_2_103 : Cond.code ⟨"TruckPlatoons$History", "<init>", "()V"⟩ prog_4_method_1_code 1 (Option.none : Option Jvm.ClassFile.FieldType) ∈ lw_big := x_t2 (List.mem_of_getElem? (i := 103) rfl) rfl
theorem w_2_104 : Cond.methodLink "TruckPlatoons$History" 1 ⟨"java/lang/Object", "<init>", "()V"⟩ ∈ lw_big := x_t2 (List.mem_of_getElem? (i := 104) rfl) rfl
theorem w_2_105 : Cond.classLink "TruckPlatoons$History" 11 "[[I" ∈ lw_big := x_t2 (List.mem_of_getElem? (i := 105) rfl) rfl
theorem w_2_107 : Cond.fieldLink "TruckPlatoons$History" 13 "TruckPlatoons$History" "ahead" "[[I" ∈ lw_big := x_t2 (List.mem_of_getElem? (i := 107) rfl) rfl
theorem w_2_108 : Cond.fieldLink "TruckPlatoons$History" 16 "TruckPlatoons$History" "latest" "I" ∈ lw_big := x_t2 (List.mem_of_getElem? (i := 108) rfl) rfl
theorem w_2_109 : Cond.fieldLink "TruckPlatoons$History" 20 "TruckPlatoons$History" "edits" "I" ∈ lw_big := x_t2 (List.mem_of_getElem? (i := 109) rfl) rfl
theorem w_2_110 : Cond.fieldLink "TruckPlatoons" 165 "TruckPlatoons$History" "edits" "I" ∈ lw_big := x_t2 (List.mem_of_getElem? (i := 110) rfl) rfl
theorem w_2_111 : Cond.fieldLink "TruckPlatoons$History" 23 "TruckPlatoons$History" "snapshots" "[[I" ∈ lw_big := x_t2 (List.mem_of_getElem? (i := 111) rfl) rfl
theorem w_2_112 : Cond.fieldLink "TruckPlatoons$History" 26 "TruckPlatoons$History" "isSaved" "[Z" ∈ lw_big := x_t2 (List.mem_of_getElem? (i := 112) rfl) rfl
theorem w_2_113 : Cond.fieldLink "TruckPlatoons" 464 "TruckPlatoons$History" "isSaved" "[Z" ∈ lw_big := x_t2 (List.mem_of_getElem? (i := 113) rfl) rfl
theorem w_2_114 : Cond.laysFinal "TruckPlatoons$History" "TruckPlatoons$History" "ahead" "[[I" ∈ lw_big := x_t2 (List.mem_of_getElem? (i := 114) rfl) rfl
theorem w_2_116 : Cond.lays "TruckPlatoons$History" "TruckPlatoons$History" "latest" "I" ∈ lw_big := x_t2 (List.mem_of_getElem? (i := 116) rfl) rfl
theorem w_2_118 : Cond.lays "TruckPlatoons$History" "TruckPlatoons$History" "edits" "I" ∈ lw_big := x_t2 (List.mem_of_getElem? (i := 118) rfl) rfl
theorem w_2_120 : Cond.laysFinal "TruckPlatoons$History" "TruckPlatoons$History" "snapshots" "[[I" ∈ lw_big := x_t2 (List.mem_of_getElem? (i := 120) rfl) rfl
theorem w_2_122 : Cond.laysFinal "TruckPlatoons$History" "TruckPlatoons$History" "isSaved" "[Z" ∈ lw_big := x_t2 (List.mem_of_getElem? (i := 122) rfl) rfl
theorem w_2_125 : Cond.classLink "TruckPlatoons" 83 "TruckPlatoons$Output" ∈ lw_big := x_t2 (List.mem_of_getElem? (i := 125) rfl) rfl
theorem w_2_126 : Cond.instantiable "TruckPlatoons$Output" 2 ∈ lw_big := x_t2 (List.mem_of_getElem? (i := 126) rfl) rfl
theorem w_2_128 : Cond.instanceMethod ⟨"TruckPlatoons$Output", "<init>", "()V"⟩ ∈ lw_big := x_t2 (List.mem_of_getElem? (i := 128) rfl) rfl
theorem w_2_129 : Cond.code ⟨"TruckPlatoons$Output", "<init>", "()V"⟩ prog_7_method_1_code 1 (Option.none : Option Jvm.ClassFile.FieldType) ∈ lw_big := x_t2 (List.mem_of_getElem? (i := 129) rfl) rfl
theorem w_2_130 : Cond.methodLink "TruckPlatoons$Output" 3 ⟨"java/lang/Object", "<init>", "()V"⟩ ∈ lw_big := x_t2 (List.mem_of_getElem? (i := 130) rfl) rfl
theorem w_2_131 : Cond.fieldLink "TruckPlatoons$Output" 11 "TruckPlatoons$Output" "bytes" "[B" ∈ lw_big := x_t2 (List.mem_of_getElem? (i := 131) rfl) rfl
theorem w_2_132 : Cond.fieldLink "TruckPlatoons" 427 "TruckPlatoons$Output" "bytes" "[B" ∈ lw_big := x_t2 (List.mem_of_getElem? (i := 132) rfl) rfl
theorem w_2_133 : Cond.fieldLink "TruckPlatoons$Output" 15 "TruckPlatoons$Output" "length" "I" ∈ lw_big := x_t2 (List.mem_of_getElem? (i := 133) rfl) rfl
theorem w_2_134 : Cond.fieldLink "TruckPlatoons" 420 "TruckPlatoons$Output" "length" "I" ∈ lw_big := x_t2 (List.mem_of_getElem? (i := 134) rfl) rfl
theorem w_2_135 : Cond.laysFinal "TruckPlatoons$Output" "TruckPlatoons$Output" "bytes" "[B" ∈ lw_big := x_t2 (List.mem_of_getElem? (i := 135) rfl) rfl
theorem w_2_137 : Cond.lays "TruckPlatoons$Output" "TruckPlatoons$Output" "length" "I" ∈ lw_big := x_t2 (List.mem_of_getElem? (i := 137) rfl) rfl
theorem w_2_140 : Cond.fieldLink "TruckPlatoons" 12 "TruckPlatoons" "text" "LTruckPlatoons$Text;" ∈ lw_big := x_t2 (List.mem_of_getElem? (i := 140) rfl) rfl
theorem w_2_141 : Cond.fieldLink "TruckPlatoons" 19 "TruckPlatoons" "fleet" "LTruckPlatoons$Fleet;" ∈ lw_big := x_t2 (List.mem_of_getElem? (i := 141) rfl) rfl
theorem w_2_142 : Cond.fieldLink "TruckPlatoons" 26 "TruckPlatoons" "loader" "LTruckPlatoons$Loader;" ∈ lw_big := x_t2 (List.mem_of_getElem? (i := 142) rfl) rfl
theorem w_2_143 : Cond.fieldLink "TruckPlatoons" 33 "TruckPlatoons" "script" "LTruckPlatoons$Script;" ∈ lw_big := x_t2 (List.mem_of_getElem? (i := 143) rfl) rfl
theorem w_2_144 : Cond.fieldLink "TruckPlatoons" 42 "TruckPlatoons" "routes" "LTruckPlatoons$Routes;" ∈ lw_big := x_t2 (List.mem_of_getElem? (i := 144) rfl) rfl
theorem w_2_145 : Cond.fieldLink "TruckPlatoons" 51 "TruckPlatoons" "plan" "LTruckPlatoons$Plan;" ∈ lw_big := x_t2 (List.mem_of_getElem? (i := 145) rfl) rfl
theorem w_2_146 : Cond.fieldLink "TruckPlatoons" 55 "TruckPlatoons" "trial" "LTruckPlatoons$Plan;" ∈ lw_big := x_t2 (List.mem_of_getElem? (i := 146) rfl) rfl
theorem w_2_147 : Cond.fieldLink "TruckPlatoons" 63 "TruckPlatoons" "merger" "LTruckPlatoons$Merger;" ∈ lw_big := x_t2 (List.mem_of_getElem? (i := 147) rfl) rfl
theorem w_2_148 : Cond.fieldLink "TruckPlatoons" 72 "TruckPlatoons" "bestOrder" "LTruckPlatoons$BestOrder;" ∈ lw_big := x_t2 (List.mem_of_getElem? (i := 148) rfl) rfl
theorem w_2_149 : Cond.fieldLink "TruckPlatoons" 79 "TruckPlatoons" "history" "LTruckPlatoons$History;" ∈ lw_big := x_t2 (List.mem_of_getElem? (i := 149) rfl) rfl
theorem w_2_150 : Cond.fieldLink "TruckPlatoons" 86 "TruckPlatoons" "output" "LTruckPlatoons$Output;" ∈ lw_big := x_t2 (List.mem_of_getElem? (i := 150) rfl) rfl
theorem w_2_151 : Cond.fieldLink "TruckPlatoons" 90 "TruckPlatoons" "reached" "[I" ∈ lw_big := x_t2 (List.mem_of_getElem? (i := 151) rfl) rfl
theorem w_2_152 : Cond.laysFinal "TruckPlatoons" "TruckPlatoons" "text" "LTruckPlatoons$Text;" ∈ lw_big := x_t2 (List.mem_of_getElem? (i := 152) rfl) rfl
theorem w_2_154 : Cond.laysFinal "TruckPlatoons" "TruckPlatoons" "fleet" "LTruckPlatoons$Fleet;" ∈ lw_big := x_t2 (List.mem_of_getElem? (i := 154) rfl) rfl
theorem w_2_156 : Cond.laysFinal "TruckPlatoons" "TruckPlatoons" "loader" "LTruckPlatoons$Loader;" ∈ lw_big := x_t2 (List.mem_of_getElem? (i := 156) rfl) rfl
theorem w_2_158 : Cond.laysFinal "TruckPlatoons" "TruckPlatoons" "script" "LTruckPlatoons$Script;" ∈ lw_big := x_t2 (List.mem_of_getElem? (i := 158) rfl) rfl
theorem w_2_160 : Cond.laysFinal "TruckPlatoons" "TruckPlatoons" "routes" "LTruckPlatoons$Routes;" ∈ lw_big := x_t2 (List.mem_of_getElem? (i := 160) rfl) rfl
theorem w_2_162 : Cond.laysFinal "TruckPlatoons" "TruckPlatoons" "plan" "LTruckPlatoons$Plan;" ∈ lw_big := x_t2 (List.mem_of_getElem? (i := 162) rfl) rfl
theorem w_2_164 : Cond.laysFinal "TruckPlatoons" "TruckPlatoons" "trial" "LTruckPlatoons$Plan;" ∈ lw_big := x_t2 (List.mem_of_getElem? (i := 164) rfl) rfl
theorem w_2_166 : Cond.laysFinal "TruckPlatoons" "TruckPlatoons" "merger" "LTruckPlatoons$Merger;" ∈ lw_big := x_t2 (List.mem_of_getElem? (i := 166) rfl) rfl
theorem w_2_168 : Cond.laysFinal "TruckPlatoons" "TruckPlatoons" "bestOrder" "LTruckPlatoons$BestOrder;" ∈ lw_big := x_t2 (List.mem_of_getElem? (i := 168) rfl) rfl
theorem w_2_170 : Cond.laysFinal "TruckPlatoons" "TruckPlatoons" "history" "LTruckPlatoons$History;" ∈ lw_big := x_t2 (List.mem_of_getElem? (i := 170) rfl) rfl
theorem w_2_172 : Cond.laysFinal "TruckPlatoons" "TruckPlatoons" "output" "LTruckPlatoons$Output;" ∈ lw_big := x_t2 (List.mem_of_getElem? (i := 172) rfl) rfl
theorem w_2_174 : Cond.laysFinal "TruckPlatoons" "TruckPlatoons" "reached" "[I" ∈ lw_big := x_t2 (List.mem_of_getElem? (i := 174) rfl) rfl
theorem w_2_177 : Cond.methodLink "TruckPlatoonsLaw" 116 ⟨"TruckPlatoons", "appendInput", "(IIIII)I"⟩ ∈ lw_big := x_t2 (List.mem_of_getElem? (i := 177) rfl) rfl
theorem w_2_178 : Cond.instanceMethod ⟨"TruckPlatoons", "appendInput", "(IIIII)I"⟩ ∈ lw_big := x_t2 (List.mem_of_getElem? (i := 178) rfl) rfl
theorem w_2_179 : Cond.selects "TruckPlatoons" ⟨"TruckPlatoons", "appendInput", "(IIIII)I"⟩ ⟨"TruckPlatoons", "appendInput", "(IIIII)I"⟩ ∈ lw_big := x_t2 (List.mem_of_getElem? (i := 179) rfl) rfl
theorem w_2_180 : Cond.code ⟨"TruckPlatoons", "appendInput", "(IIIII)I"⟩ prog_1_method_2_code 6 (Option.some FieldType.int) ∈ lw_big := x_t2 (List.mem_of_getElem? (i := 180) rfl) rfl
theorem w_2_181 : Cond.methodLink "TruckPlatoons" 98 ⟨"TruckPlatoons$Text", "append", "(I)V"⟩ ∈ lw_big := x_t2 (List.mem_of_getElem? (i := 181) rfl) rfl
theorem w_2_182 : Cond.instanceMethod ⟨"TruckPlatoons$Text", "append", "(I)V"⟩ ∈ lw_big := x_t2 (List.mem_of_getElem? (i := 182) rfl) rfl
theorem w_2_183 : Cond.selects "TruckPlatoons$Text" ⟨"TruckPlatoons$Text", "append", "(I)V"⟩ ⟨"TruckPlatoons$Text", "append", "(I)V"⟩ ∈ lw_big := x_t2 (List.mem_of_getElem? (i := 183) rfl) rfl
theorem w_2_184 : Cond.code ⟨"TruckPlatoons$Text", "append", "(I)V"⟩ prog_11_method_2_code 3 (Option.none : Option Jvm.ClassFile.FieldType) ∈ lw_big := x_t2 (List.mem_of_getElem? (i := 184) rfl) rfl
theorem w_2_185 : Cond.methodLink "TruckPlatoonsLaw" 121 ⟨"TruckPlatoons", "truncateInput", "(I)I"⟩ ∈ lw_big := x_t2 (List.mem_of_getElem? (i := 185) rfl) rfl
theorem w_2_186 : Cond.instanceMethod ⟨"TruckPlatoons", "truncateInput", "(I)I"⟩ ∈ lw_big := x_t2 (List.mem_of_getElem? (i := 186) rfl) rfl
theorem w_2_187 : Cond.selects "TruckPlatoons" ⟨"TruckPlatoons", "truncateInput", "(I)I"⟩ ⟨"TruckPlatoons", "truncateInput", "(I)I"⟩ ∈ lw_big := x_t2 (List.mem_of_getElem? (i := 187) rfl) rfl
theorem w_2_188 : Cond.code ⟨"TruckPlatoons", "truncateInput", "(I)I"⟩ prog_1_method_3_code 2 (Option.some FieldType.int) ∈ lw_big := x_t2 (List.mem_of_getElem? (i := 188) rfl) rfl
theorem w_2_189 : Cond.methodLink "TruckPlatoonsLaw" 125 ⟨"TruckPlatoons", "load", "()I"⟩ ∈ lw_big := x_t2 (List.mem_of_getElem? (i := 189) rfl) rfl
theorem w_2_190 : Cond.instanceMethod ⟨"TruckPlatoons", "load", "()I"⟩ ∈ lw_big := x_t2 (List.mem_of_getElem? (i := 190) rfl) rfl
theorem w_2_191 : Cond.selects "TruckPlatoons" ⟨"TruckPlatoons", "load", "()I"⟩ ⟨"TruckPlatoons", "load", "()I"⟩ ∈ lw_big := x_t2 (List.mem_of_getElem? (i := 191) rfl) rfl
theorem w_2_192 : Cond.code ⟨"TruckPlatoons", "load", "()I"⟩ prog_1_method_4_code 2 (Option.some FieldType.int) ∈ lw_big := x_t2 (List.mem_of_getElem? (i := 192) rfl) rfl
theorem w_2_193 : Cond.methodLink "TruckPlatoons" 102 ⟨"TruckPlatoons$Text", "open", "()V"⟩ ∈ lw_big := x_t2 (List.mem_of_getElem? (i := 193) rfl) rfl
theorem w_2_194 : Cond.instanceMethod ⟨"TruckPlatoons$Text", "open", "()V"⟩ ∈ lw_big := x_t2 (List.mem_of_getElem? (i := 194) rfl) rfl
theorem w_2_195 : Cond.selects "TruckPlatoons$Text" ⟨"TruckPlatoons$Text", "open", "()V"⟩ ⟨"TruckPlatoons$Text", "open", "()V"⟩ ∈ lw_big := x_t2 (List.mem_of_getElem? (i := 195) rfl) rfl
theorem w_2_196 : Cond.code ⟨"TruckPlatoons$Text", "open", "()V"⟩ prog_11_method_3_code 1 (Option.none : Option Jvm.ClassFile.FieldType) ∈ lw_big := x_t2 (List.mem_of_getElem? (i := 196) rfl) rfl
theorem w_2_197 : Cond.methodLink "TruckPlatoons" 105 ⟨"TruckPlatoons$Loader", "read", "(LTruckPlatoons$Text;)Z"⟩ ∈ lw_big := x_t2 (List.mem_of_getElem? (i := 197) rfl) rfl
theorem w_2_198 : Cond.instanceMethod ⟨"TruckPlatoons$Loader", "read", "(LTruckPlatoons$Text;)Z"⟩ ∈ lw_big := x_t2 (List.mem_of_getElem? (i := 198) rfl) rfl
theorem w_2_199 : Cond.selects "TruckPlatoons$Loader" ⟨"TruckPlatoons$Loader", "read", "(LTruckPlatoons$Text;)Z"⟩ ⟨"TruckPlatoons$Loader", "read", "(LTruckPlatoons$Text;)Z"⟩ ∈ lw_big := x_t2 (List.mem_of_getElem? (i := 199) rfl) rfl
theorem w_2_200 : Cond.code ⟨"TruckPlatoons$Loader", "read", "(LTruckPlatoons$Text;)Z"⟩ prog_5_method_2_code 4 (Option.some FieldType.boolean) ∈ lw_big := x_t2 (List.mem_of_getElem? (i := 200) rfl) rfl
theorem w_2_201 : Cond.methodLink "TruckPlatoons$Loader" 27 ⟨"TruckPlatoons$Text", "next", "()V"⟩ ∈ lw_big := x_t2 (List.mem_of_getElem? (i := 201) rfl) rfl
theorem w_2_202 : Cond.instanceMethod ⟨"TruckPlatoons$Text", "next", "()V"⟩ ∈ lw_big := x_t2 (List.mem_of_getElem? (i := 202) rfl) rfl
theorem w_2_203 : Cond.selects "TruckPlatoons$Text" ⟨"TruckPlatoons$Text", "next", "()V"⟩ ⟨"TruckPlatoons$Text", "next", "()V"⟩ ∈ lw_big := x_t2 (List.mem_of_getElem? (i := 203) rfl) rfl
theorem w_2_204 : Cond.code ⟨"TruckPlatoons$Text", "next", "()V"⟩ prog_11_method_4_code 1 (Option.none : Option Jvm.ClassFile.FieldType) ∈ lw_big := x_t2 (List.mem_of_getElem? (i := 204) rfl) rfl
theorem w_2_205 : Cond.methodLink "TruckPlatoons$Text" 37 ⟨"TruckPlatoons$Text", "isDigit", "(B)Z"⟩ ∈ lw_big := x_t2 (List.mem_of_getElem? (i := 205) rfl) rfl
theorem w_2_206 : Cond.static ⟨"TruckPlatoons$Text", "isDigit", "(B)Z"⟩ ∈ lw_big := x_t2 (List.mem_of_getElem? (i := 206) rfl) rfl
theorem w_2_207 : Cond.code ⟨"TruckPlatoons$Text", "isDigit", "(B)Z"⟩ prog_11_method_7_code 1 (Option.some FieldType.boolean) ∈ lw_big := x_t2 (List.mem_of_getElem? (i := 207) rfl) rfl
theorem w_2_208 : Cond.methodLink "TruckPlatoons$Text" 41 ⟨"TruckPlatoons$Text", "readDigits", "()V"⟩ ∈ lw_big := x_t2 (List.mem_of_getElem? (i := 208) rfl) rfl
theorem w_2_210 : Cond.instanceMethod ⟨"TruckPlatoons$Text", "readDigits", "()V"⟩ ∈ lw_big := x_t2 (List.mem_of_getElem? (i := 210) rfl) rfl
theorem w_2_211 : Cond.code ⟨"TruckPlatoons$Text", "readDigits", "()V"⟩ prog_11_method_5_code 1 (Option.none : Option Jvm.ClassFile.FieldType) ∈ lw_big := x_t2 (List.mem_of_getElem? (i := 211) rfl) rfl
theorem w_2_212 : Cond.methodLink "TruckPlatoons$Text" 44 ⟨"TruckPlatoons$Text", "isLetter", "(B)Z"⟩ ∈ lw_big := x_t2 (List.mem_of_getElem? (i := 212) rfl) rfl
theorem w_2_213 : Cond.static ⟨"TruckPlatoons$Text", "isLetter", "(B)Z"⟩ ∈ lw_big := x_t2 (List.mem_of_getElem? (i := 213) rfl) rfl
theorem w_2_214 : Cond.code ⟨"TruckPlatoons$Text", "isLetter", "(B)Z"⟩ prog_11_method_8_code 1 (Option.some FieldType.boolean) ∈ lw_big := x_t2 (List.mem_of_getElem? (i := 214) rfl) rfl
theorem w_2_215 : Cond.methodLink "TruckPlatoons$Text" 47 ⟨"TruckPlatoons$Text", "readLetters", "()V"⟩ ∈ lw_big := x_t2 (List.mem_of_getElem? (i := 215) rfl) rfl
theorem w_2_217 : Cond.instanceMethod ⟨"TruckPlatoons$Text", "readLetters", "()V"⟩ ∈ lw_big := x_t2 (List.mem_of_getElem? (i := 217) rfl) rfl
theorem w_2_218 : Cond.code ⟨"TruckPlatoons$Text", "readLetters", "()V"⟩ prog_11_method_6_code 1 (Option.none : Option Jvm.ClassFile.FieldType) ∈ lw_big := x_t2 (List.mem_of_getElem? (i := 218) rfl) rfl
theorem w_2_220 : Cond.methodLink "TruckPlatoons$Loader" 35 ⟨"TruckPlatoons$Text", "isWord", "(Ljava/lang/String;)Z"⟩ ∈ lw_big := x_t2 (List.mem_of_getElem? (i := 220) rfl) rfl
theorem w_2_221 : Cond.instanceMethod ⟨"TruckPlatoons$Text", "isWord", "(Ljava/lang/String;)Z"⟩ ∈ lw_big := x_t2 (List.mem_of_getElem? (i := 221) rfl) rfl
theorem w_2_222 : Cond.selects "TruckPlatoons$Text" ⟨"TruckPlatoons$Text", "isWord", "(Ljava/lang/String;)Z"⟩ ⟨"TruckPlatoons$Text", "isWord", "(Ljava/lang/String;)Z"⟩ ∈ lw_big := x_t2 (List.mem_of_getElem? (i := 222) rfl) rfl
theorem w_2_223 : Cond.code ⟨"TruckPlatoons$Text", "isWord", "(Ljava/lang/String;)Z"⟩ prog_11_method_9_code 3 (Option.some FieldType.boolean) ∈ lw_big := x_t2 (List.mem_of_getElem? (i := 223) rfl) rfl
theorem w_2_224 : Cond.methodLink "TruckPlatoons$Text" 50 ⟨"java/lang/String", "length", "()I"⟩ ∈ lw_big := x_t2 (List.mem_of_getElem? (i := 224) rfl) rfl
theorem w_2_225 : Cond.instanceMethod ⟨"java/lang/String", "length", "()I"⟩ ∈ lw_big := x_t2 (List.mem_of_getElem? (i := 225) rfl) rfl
theorem w_2_226 : Cond.selects "java/lang/String" ⟨"java/lang/String", "length", "()I"⟩ ⟨"java/lang/String", "length", "()I"⟩ ∈ lw_big := x_t2 (List.mem_of_getElem? (i := 226) rfl) rfl
theorem w_2_227 : Cond.code ⟨"java/lang/String", "length", "()I"⟩ prog_24_method_54_code 1 (Option.some FieldType.int) ∈ lw_big := x_t2 (List.mem_of_getElem? (i := 227) rfl) rfl
theorem w_2_228 : Cond.methodLink "java/lang/String" 335 ⟨"java/lang/String", "coder", "()B"⟩ ∈ lw_big := x_t2 (List.mem_of_getElem? (i := 228) rfl) rfl
theorem w_2_229 : Cond.instanceMethod ⟨"java/lang/String", "coder", "()B"⟩ ∈ lw_big := x_t2 (List.mem_of_getElem? (i := 229) rfl) rfl
theorem w_2_230 : Cond.selects "java/lang/String" ⟨"java/lang/String", "coder", "()B"⟩ ⟨"java/lang/String", "coder", "()B"⟩ ∈ lw_big := x_t2 (List.mem_of_getElem? (i := 230) rfl) rfl
theorem w_2_231 : Cond.code ⟨"java/lang/String", "coder", "()B"⟩ prog_24_method_152_code 1 (Option.some FieldType.byte) ∈ lw_big := x_t2 (List.mem_of_getElem? (i := 231) rfl) rfl
theorem w_2_232 : Cond.fieldLink "java/lang/String" 38 "java/lang/String" "COMPACT_STRINGS" "Z" ∈ lw_big := x_t2 (List.mem_of_getElem? (i := 232) rfl) rfl
theorem w_2_234 : Cond.methodLink "TruckPlatoons$Text" 55 ⟨"java/lang/String", "charAt", "(I)C"⟩ ∈ lw_big := x_t2 (List.mem_of_getElem? (i := 234) rfl) rfl
theorem w_2_235 : Cond.instanceMethod ⟨"java/lang/String", "charAt", "(I)C"⟩ ∈ lw_big := x_t2 (List.mem_of_getElem? (i := 235) rfl) rfl
theorem w_2_236 : Cond.selects "java/lang/String" ⟨"java/lang/String", "charAt", "(I)C"⟩ ⟨"java/lang/String", "charAt", "(I)C"⟩ ∈ lw_big := x_t2 (List.mem_of_getElem? (i := 236) rfl) rfl
theorem w_2_237 : Cond.code ⟨"java/lang/String", "charAt", "(I)C"⟩ prog_24_method_56_code 2 (Option.some FieldType.char) ∈ lw_big := x_t2 (List.mem_of_getElem? (i := 237) rfl) rfl
theorem w_2_238 : Cond.methodLink "java/lang/String" 492 ⟨"java/lang/String", "isLatin1", "()Z"⟩ ∈ lw_big := x_t2 (List.mem_of_getElem? (i := 238) rfl) rfl
theorem w_2_239 : Cond.instanceMethod ⟨"java/lang/String", "isLatin1", "()Z"⟩ ∈ lw_big := x_t2 (List.mem_of_getElem? (i := 239) rfl) rfl
theorem w_3_0 : Cond.selects "java/lang/String" ⟨"java/lang/String", "isLatin1", "()Z"⟩ ⟨"java/lang/String", "isLatin1", "()Z"⟩ ∈ lw_big := x_t3 (List.mem_of_getElem? (i := 0) rfl) rfl
theorem w_3_1 : Cond.code ⟨"java/lang/String", "isLatin1", "()Z"⟩ prog_24_method_154_code 1 (Option.some FieldType.boolean) ∈ lw_big := x_t3 (List.mem_of_getElem? (i := 1) rfl) rfl
theorem w_3_2 : Cond.methodLink "java/lang/String" 495 ⟨"java/lang/StringLatin1", "charAt", "([BI)C"⟩ ∈ lw_big := x_t3 (List.mem_of_getElem? (i := 2) rfl) rfl
theorem w_3_3 : Cond.static ⟨"java/lang/StringLatin1", "charAt", "([BI)C"⟩ ∈ lw_big := x_t3 (List.mem_of_getElem? (i := 3) rfl) rfl
theorem w_3_4 : Cond.code ⟨"java/lang/StringLatin1", "charAt", "([BI)C"⟩ prog_25_method_2_code 2 (Option.some FieldType.char) ∈ lw_big := x_t3 (List.mem_of_getElem? (i := 4) rfl) rfl
theorem w_3_5 : Cond.methodLink "java/lang/StringLatin1" 9 ⟨"java/lang/String", "checkIndex", "(II)V"⟩ ∈ lw_big := x_t3 (List.mem_of_getElem? (i := 5) rfl) rfl
theorem w_3_6 : Cond.static ⟨"java/lang/String", "checkIndex", "(II)V"⟩ ∈ lw_big := x_t3 (List.mem_of_getElem? (i := 6) rfl) rfl
theorem w_3_7 : Cond.code ⟨"java/lang/String", "checkIndex", "(II)V"⟩ prog_24_method_155_code 2 (Option.none : Option Jvm.ClassFile.FieldType) ∈ lw_big := x_t3 (List.mem_of_getElem? (i := 7) rfl) rfl
theorem w_3_8 : Cond.fieldLink "java/lang/String" 1053 "jdk/internal/util/Preconditions" "SIOOBE_FORMATTER" "Ljava/util/function/BiFunction;" ∈ lw_big := x_t3 (List.mem_of_getElem? (i := 8) rfl) rfl
theorem w_3_10 : Cond.methodLink "java/lang/String" 1059 ⟨"jdk/internal/util/Preconditions", "checkIndex", "(IILjava/util/function/BiFunction;)I"⟩ ∈ lw_big := x_t3 (List.mem_of_getElem? (i := 10) rfl) rfl
theorem w_3_11 : Cond.static ⟨"jdk/internal/util/Preconditions", "checkIndex", "(IILjava/util/function/BiFunction;)I"⟩ ∈ lw_big := x_t3 (List.mem_of_getElem? (i := 11) rfl) rfl
theorem w_3_12 : Cond.code ⟨"jdk/internal/util/Preconditions", "checkIndex", "(IILjava/util/function/BiFunction;)I"⟩ prog_29_method_11_code 3 (Option.some FieldType.int) ∈ lw_big := x_t3 (List.mem_of_getElem? (i := 12) rfl) rfl
theorem w_3_13 : Cond.methodLink "java/lang/String" 498 ⟨"java/lang/StringUTF16", "charAt", "([BI)C"⟩ ∈ lw_big := x_t3 (List.mem_of_getElem? (i := 13) rfl) rfl
theorem w_3_14 : Cond.static ⟨"java/lang/StringUTF16", "charAt", "([BI)C"⟩ ∈ lw_big := x_t3 (List.mem_of_getElem? (i := 14) rfl) rfl
theorem w_3_15 : Cond.code ⟨"java/lang/StringUTF16", "charAt", "([BI)C"⟩ prog_26_method_83_code 2 (Option.some FieldType.char) ∈ lw_big := x_t3 (List.mem_of_getElem? (i := 15) rfl) rfl
theorem w_3_16 : Cond.methodLink "java/lang/StringUTF16" 67 ⟨"java/lang/StringUTF16", "checkIndex", "(I[B)V"⟩ ∈ lw_big := x_t3 (List.mem_of_getElem? (i := 16) rfl) rfl
theorem w_3_17 : Cond.static ⟨"java/lang/StringUTF16", "checkIndex", "(I[B)V"⟩ ∈ lw_big := x_t3 (List.mem_of_getElem? (i := 17) rfl) rfl
theorem w_3_18 : Cond.code ⟨"java/lang/StringUTF16", "checkIndex", "(I[B)V"⟩ prog_26_method_91_code 2 (Option.none : Option Jvm.ClassFile.FieldType) ∈ lw_big := x_t3 (List.mem_of_getElem? (i := 18) rfl) rfl
theorem w_3_19 : Cond.methodLink "java/lang/StringUTF16" 48 ⟨"java/lang/StringUTF16", "length", "([B)I"⟩ ∈ lw_big := x_t3 (List.mem_of_getElem? (i := 19) rfl) rfl
theorem w_3_20 : Cond.static ⟨"java/lang/StringUTF16", "length", "([B)I"⟩ ∈ lw_big := x_t3 (List.mem_of_getElem? (i := 20) rfl) rfl
theorem w_3_21 : Cond.code ⟨"java/lang/StringUTF16", "length", "([B)I"⟩ prog_26_method_6_code 1 (Option.some FieldType.int) ∈ lw_big := x_t3 (List.mem_of_getElem? (i := 21) rfl) rfl
theorem w_3_22 : Cond.methodLink "java/lang/StringUTF16" 414 ⟨"java/lang/String", "checkIndex", "(II)V"⟩ ∈ lw_big := x_t3 (List.mem_of_getElem? (i := 22) rfl) rfl
theorem w_3_23 : Cond.methodLink "java/lang/StringUTF16" 71 ⟨"java/lang/StringUTF16", "getChar", "([BI)C"⟩ ∈ lw_big := x_t3 (List.mem_of_getElem? (i := 23) rfl) rfl
theorem w_3_24 : Cond.static ⟨"java/lang/StringUTF16", "getChar", "([BI)C"⟩ ∈ lw_big := x_t3 (List.mem_of_getElem? (i := 24) rfl) rfl
theorem w_3_25 : Cond.code ⟨"java/lang/StringUTF16", "getChar", "([BI)C"⟩ prog_26_method_5_code 2 (Option.some FieldType.char) ∈ lw_big := x_t3 (List.mem_of_getElem? (i := 25) rfl) rfl
theorem w_3_26 : Cond.fieldLink "java/lang/StringUTF16" 44 "java/lang/StringUTF16" "$assertionsDisabled" "Z" ∈ lw_big := x_t3 (List.mem_of_getElem? (i := 26) rfl) rfl
theorem w_3_28 : Cond.fieldLink "java/lang/StringUTF16" 59 "java/lang/StringUTF16" "HI_BYTE_SHIFT" "I" ∈ lw_big := x_t3 (List.mem_of_getElem? (i := 28) rfl) rfl
theorem w_3_30 : Cond.fieldLink "java/lang/StringUTF16" 63 "java/lang/StringUTF16" "LO_BYTE_SHIFT" "I" ∈ lw_big := x_t3 (List.mem_of_getElem? (i := 30) rfl) rfl
theorem w_3_32 : Cond.methodLink "TruckPlatoons$Loader" 39 ⟨"TruckPlatoons$Loader", "readRoad", "(LTruckPlatoons$Text;I)Z"⟩ ∈ lw_big := x_t3 (List.mem_of_getElem? (i := 32) rfl) rfl
theorem w_3_34 : Cond.instanceMethod ⟨"TruckPlatoons$Loader", "readRoad", "(LTruckPlatoons$Text;I)Z"⟩ ∈ lw_big := x_t3 (List.mem_of_getElem? (i := 34) rfl) rfl
theorem w_3_35 : Cond.code ⟨"TruckPlatoons$Loader", "readRoad", "(LTruckPlatoons$Text;I)Z"⟩ prog_5_method_3_code 3 (Option.some FieldType.boolean) ∈ lw_big := x_t3 (List.mem_of_getElem? (i := 35) rfl) rfl
theorem w_3_36 : Cond.methodLink "TruckPlatoons$Loader" 52 ⟨"TruckPlatoons$Text", "readNumber", "(II)Z"⟩ ∈ lw_big := x_t3 (List.mem_of_getElem? (i := 36) rfl) rfl
theorem w_3_37 : Cond.instanceMethod ⟨"TruckPlatoons$Text", "readNumber", "(II)Z"⟩ ∈ lw_big := x_t3 (List.mem_of_getElem? (i := 37) rfl) rfl
theorem w_3_38 : Cond.selects "TruckPlatoons$Text" ⟨"TruckPlatoons$Text", "readNumber", "(II)Z"⟩ ⟨"TruckPlatoons$Text", "readNumber", "(II)Z"⟩ ∈ lw_big := x_t3 (List.mem_of_getElem? (i := 38) rfl) rfl
theorem w_3_39 : Cond.code ⟨"TruckPlatoons$Text", "readNumber", "(II)Z"⟩ prog_11_method_11_code 3 (Option.some FieldType.boolean) ∈ lw_big := x_t3 (List.mem_of_getElem? (i := 39) rfl) rfl
theorem w_3_40 : Cond.methodLink "TruckPlatoons$Text" 59 ⟨"TruckPlatoons$Text", "next", "()V"⟩ ∈ lw_big := x_t3 (List.mem_of_getElem? (i := 40) rfl) rfl
theorem w_3_41 : Cond.methodLink "TruckPlatoons$Text" 62 ⟨"TruckPlatoons$Text", "fail", "(I)Z"⟩ ∈ lw_big := x_t3 (List.mem_of_getElem? (i := 41) rfl) rfl
theorem w_3_42 : Cond.instanceMethod ⟨"TruckPlatoons$Text", "fail", "(I)Z"⟩ ∈ lw_big := x_t3 (List.mem_of_getElem? (i := 42) rfl) rfl
theorem w_3_43 : Cond.selects "TruckPlatoons$Text" ⟨"TruckPlatoons$Text", "fail", "(I)Z"⟩ ⟨"TruckPlatoons$Text", "fail", "(I)Z"⟩ ∈ lw_big := x_t3 (List.mem_of_getElem? (i := 43) rfl) rfl
theorem w_3_44 : Cond.code ⟨"TruckPlatoons$Text", "fail", "(I)Z"⟩ prog_11_method_10_code 2 (Option.some FieldType.boolean) ∈ lw_big := x_t3 (List.mem_of_getElem? (i := 44) rfl) rfl
theorem w_3_45 : Cond.methodLink "TruckPlatoons$Loader" 43 ⟨"TruckPlatoons$Text", "fail", "(I)Z"⟩ ∈ lw_big := x_t3 (List.mem_of_getElem? (i := 45) rfl) rfl
theorem w_3_46 : Cond.methodLink "TruckPlatoons$Loader" 72 ⟨"TruckPlatoons$Text", "readSemicolon", "()Z"⟩ ∈ lw_big := x_t3 (List.mem_of_getElem? (i := 46) rfl) rfl
theorem w_3_47 : Cond.instanceMethod ⟨"TruckPlatoons$Text", "readSemicolon", "()Z"⟩ ∈ lw_big := x_t3 (List.mem_of_getElem? (i := 47) rfl) rfl
theorem w_3_48 : Cond.selects "TruckPlatoons$Text" ⟨"TruckPlatoons$Text", "readSemicolon", "()Z"⟩ ⟨"TruckPlatoons$Text", "readSemicolon", "()Z"⟩ ∈ lw_big := x_t3 (List.mem_of_getElem? (i := 48) rfl) rfl
theorem w_3_49 : Cond.code ⟨"TruckPlatoons$Text", "readSemicolon", "()Z"⟩ prog_11_method_12_code 1 (Option.some FieldType.boolean) ∈ lw_big := x_t3 (List.mem_of_getElem? (i := 49) rfl) rfl
theorem w_3_51 : Cond.methodLink "TruckPlatoons$Loader" 49 ⟨"TruckPlatoons$Loader", "readTruck", "(LTruckPlatoons$Text;I)Z"⟩ ∈ lw_big := x_t3 (List.mem_of_getElem? (i := 51) rfl) rfl
theorem w_3_53 : Cond.instanceMethod ⟨"TruckPlatoons$Loader", "readTruck", "(LTruckPlatoons$Text;I)Z"⟩ ∈ lw_big := x_t3 (List.mem_of_getElem? (i := 53) rfl) rfl
theorem w_3_54 : Cond.code ⟨"TruckPlatoons$Loader", "readTruck", "(LTruckPlatoons$Text;I)Z"⟩ prog_5_method_4_code 3 (Option.some FieldType.boolean) ∈ lw_big := x_t3 (List.mem_of_getElem? (i := 54) rfl) rfl
theorem w_3_55 : Cond.methodLink "TruckPlatoons$Loader" 85 ⟨"TruckPlatoons$Loader", "readRoute", "(LTruckPlatoons$Text;I)Z"⟩ ∈ lw_big := x_t3 (List.mem_of_getElem? (i := 55) rfl) rfl
theorem w_3_57 : Cond.instanceMethod ⟨"TruckPlatoons$Loader", "readRoute", "(LTruckPlatoons$Text;I)Z"⟩ ∈ lw_big := x_t3 (List.mem_of_getElem? (i := 57) rfl) rfl
theorem w_3_58 : Cond.code ⟨"TruckPlatoons$Loader", "readRoute", "(LTruckPlatoons$Text;I)Z"⟩ prog_5_method_5_code 4 (Option.some FieldType.boolean) ∈ lw_big := x_t3 (List.mem_of_getElem? (i := 58) rfl) rfl
theorem w_3_60 : Cond.static ⟨"TruckPlatoons", "stopAt", "(II)I"⟩ ∈ lw_big := x_t3 (List.mem_of_getElem? (i := 60) rfl) rfl
theorem w_3_61 : Cond.code ⟨"TruckPlatoons", "stopAt", "(II)I"⟩ prog_1_method_64_code 2 (Option.some FieldType.int) ∈ lw_big := x_t3 (List.mem_of_getElem? (i := 61) rfl) rfl
theorem w_3_62 : Cond.methodLink "TruckPlatoons" 112 ⟨"TruckPlatoons$Fleet", "copy", "(LTruckPlatoons$Fleet;)V"⟩ ∈ lw_big := x_t3 (List.mem_of_getElem? (i := 62) rfl) rfl
theorem w_3_63 : Cond.instanceMethod ⟨"TruckPlatoons$Fleet", "copy", "(LTruckPlatoons$Fleet;)V"⟩ ∈ lw_big := x_t3 (List.mem_of_getElem? (i := 63) rfl) rfl
theorem w_3_64 : Cond.selects "TruckPlatoons$Fleet" ⟨"TruckPlatoons$Fleet", "copy", "(LTruckPlatoons$Fleet;)V"⟩ ⟨"TruckPlatoons$Fleet", "copy", "(LTruckPlatoons$Fleet;)V"⟩ ∈ lw_big := x_t3 (List.mem_of_getElem? (i := 64) rfl) rfl
theorem w_3_65 : Cond.code ⟨"TruckPlatoons$Fleet", "copy", "(LTruckPlatoons$Fleet;)V"⟩ prog_3_method_2_code 2 (Option.none : Option Jvm.ClassFile.FieldType) ∈ lw_big := x_t3 (List.mem_of_getElem? (i := 65) rfl) rfl
theorem w_3_66 : Cond.methodLink "TruckPlatoons$Fleet" 46 ⟨"java/lang/System", "arraycopy", "(Ljava/lang/Object;ILjava/lang/Object;II)V"⟩ ∈ lw_big := x_t3 (List.mem_of_getElem? (i := 66) rfl) rfl
theorem w_3_67 : Cond.static ⟨"java/lang/System", "arraycopy", "(Ljava/lang/Object;ILjava/lang/Object;II)V"⟩ ∈ lw_big := x_t3 (List.mem_of_getElem? (i := 67) rfl) rfl
theorem w_3_68 : Cond.native ⟨"java/lang/System", "arraycopy", "(Ljava/lang/Object;ILjava/lang/Object;II)V"⟩ ∈ lw_big := x_t3 (List.mem_of_getElem? (i := 68) rfl) rfl
theorem w_3_69 : Cond.methodLink "TruckPlatoons" 115 ⟨"TruckPlatoons$Routes", "prepare", "()V"⟩ ∈ lw_big := x_t3 (List.mem_of_getElem? (i := 69) rfl) rfl
theorem w_3_70 : Cond.instanceMethod ⟨"TruckPlatoons$Routes", "prepare", "()V"⟩ ∈ lw_big := x_t3 (List.mem_of_getElem? (i := 70) rfl) rfl
theorem w_3_71 : Cond.selects "TruckPlatoons$Routes" ⟨"TruckPlatoons$Routes", "prepare", "()V"⟩ ⟨"TruckPlatoons$Routes", "prepare", "()V"⟩ ∈ lw_big := x_t3 (List.mem_of_getElem? (i := 71) rfl) rfl
theorem w_3_72 : Cond.code ⟨"TruckPlatoons$Routes", "prepare", "()V"⟩ prog_9_method_2_code 3 (Option.none : Option Jvm.ClassFile.FieldType) ∈ lw_big := x_t3 (List.mem_of_getElem? (i := 72) rfl) rfl
theorem w_3_74 : Cond.methodLink "TruckPlatoons$Routes" 45 ⟨"TruckPlatoons$Routes", "listByRoad", "()V"⟩ ∈ lw_big := x_t3 (List.mem_of_getElem? (i := 74) rfl) rfl
theorem w_3_76 : Cond.instanceMethod ⟨"TruckPlatoons$Routes", "listByRoad", "()V"⟩ ∈ lw_big := x_t3 (List.mem_of_getElem? (i := 76) rfl) rfl
theorem w_3_77 : Cond.code ⟨"TruckPlatoons$Routes", "listByRoad", "()V"⟩ prog_9_method_3_code 5 (Option.none : Option Jvm.ClassFile.FieldType) ∈ lw_big := x_t3 (List.mem_of_getElem? (i := 77) rfl) rfl
theorem w_3_78 : Cond.methodLink "TruckPlatoons$Routes" 48 ⟨"TruckPlatoons$Routes", "setNext", "()V"⟩ ∈ lw_big := x_t3 (List.mem_of_getElem? (i := 78) rfl) rfl
theorem w_3_80 : Cond.instanceMethod ⟨"TruckPlatoons$Routes", "setNext", "()V"⟩ ∈ lw_big := x_t3 (List.mem_of_getElem? (i := 80) rfl) rfl
theorem w_3_81 : Cond.code ⟨"TruckPlatoons$Routes", "setNext", "()V"⟩ prog_9_method_4_code 4 (Option.none : Option Jvm.ClassFile.FieldType) ∈ lw_big := x_t3 (List.mem_of_getElem? (i := 81) rfl) rfl
theorem w_3_82 : Cond.methodLink "TruckPlatoons$Routes" 51 ⟨"TruckPlatoons$Routes", "setShared", "(II)V"⟩ ∈ lw_big := x_t3 (List.mem_of_getElem? (i := 82) rfl) rfl
theorem w_3_84 : Cond.instanceMethod ⟨"TruckPlatoons$Routes", "setShared", "(II)V"⟩ ∈ lw_big := x_t3 (List.mem_of_getElem? (i := 84) rfl) rfl
theorem w_3_85 : Cond.code ⟨"TruckPlatoons$Routes", "setShared", "(II)V"⟩ prog_9_method_5_code 8 (Option.none : Option Jvm.ClassFile.FieldType) ∈ lw_big := x_t3 (List.mem_of_getElem? (i := 85) rfl) rfl
theorem w_3_86 : Cond.methodLink "TruckPlatoons$Routes" 61 ⟨"TruckPlatoons$Routes", "sharedPlaces", "(II)I"⟩ ∈ lw_big := x_t3 (List.mem_of_getElem? (i := 86) rfl) rfl
theorem w_3_87 : Cond.instanceMethod ⟨"TruckPlatoons$Routes", "sharedPlaces", "(II)I"⟩ ∈ lw_big := x_t3 (List.mem_of_getElem? (i := 87) rfl) rfl
theorem w_3_88 : Cond.selects "TruckPlatoons$Routes" ⟨"TruckPlatoons$Routes", "sharedPlaces", "(II)I"⟩ ⟨"TruckPlatoons$Routes", "sharedPlaces", "(II)I"⟩ ∈ lw_big := x_t3 (List.mem_of_getElem? (i := 88) rfl) rfl
theorem w_3_89 : Cond.code ⟨"TruckPlatoons$Routes", "sharedPlaces", "(II)I"⟩ prog_9_method_6_code 3 (Option.some FieldType.int) ∈ lw_big := x_t3 (List.mem_of_getElem? (i := 89) rfl) rfl
theorem w_3_90 : Cond.methodLink "TruckPlatoons" 118 ⟨"TruckPlatoons$Plan", "begin", "()V"⟩ ∈ lw_big := x_t3 (List.mem_of_getElem? (i := 90) rfl) rfl
theorem w_3_91 : Cond.instanceMethod ⟨"TruckPlatoons$Plan", "begin", "()V"⟩ ∈ lw_big := x_t3 (List.mem_of_getElem? (i := 91) rfl) rfl
theorem w_3_92 : Cond.selects "TruckPlatoons$Plan" ⟨"TruckPlatoons$Plan", "begin", "()V"⟩ ⟨"TruckPlatoons$Plan", "begin", "()V"⟩ ∈ lw_big := x_t3 (List.mem_of_getElem? (i := 92) rfl) rfl
theorem w_3_93 : Cond.code ⟨"TruckPlatoons$Plan", "begin", "()V"⟩ prog_8_method_2_code 3 (Option.none : Option Jvm.ClassFile.FieldType) ∈ lw_big := x_t3 (List.mem_of_getElem? (i := 93) rfl) rfl
theorem w_3_94 : Cond.methodLink "TruckPlatoons$Plan" 66 ⟨"java/lang/System", "arraycopy", "(Ljava/lang/Object;ILjava/lang/Object;II)V"⟩ ∈ lw_big := x_t3 (List.mem_of_getElem? (i := 94) rfl) rfl
theorem w_3_95 : Cond.methodLink "TruckPlatoons$Plan" 86 ⟨"java/lang/Math", "min", "(II)I"⟩ ∈ lw_big := x_t3 (List.mem_of_getElem? (i := 95) rfl) rfl
theorem w_3_96 : Cond.static ⟨"java/lang/Math", "min", "(II)I"⟩ ∈ lw_big := x_t3 (List.mem_of_getElem? (i := 96) rfl) rfl
theorem w_3_97 : Cond.code ⟨"java/lang/Math", "min", "(II)I"⟩ prog_22_method_69_code 2 (Option.some FieldType.int) ∈ lw_big := x_t3 (List.mem_of_getElem? (i := 97) rfl) rfl
theorem w_3_98 : Cond.methodLink "TruckPlatoons$Plan" 95 ⟨"TruckPlatoons$Plan", "arrange", "()V"⟩ ∈ lw_big := x_t3 (List.mem_of_getElem? (i := 98) rfl) rfl
theorem w_3_99 : Cond.instanceMethod ⟨"TruckPlatoons$Plan", "arrange", "()V"⟩ ∈ lw_big := x_t3 (List.mem_of_getElem? (i := 99) rfl) rfl
theorem w_3_100 : Cond.selects "TruckPlatoons$Plan" ⟨"TruckPlatoons$Plan", "arrange", "()V"⟩ ⟨"TruckPlatoons$Plan", "arrange", "()V"⟩ ∈ lw_big := x_t3 (List.mem_of_getElem? (i := 100) rfl) rfl
theorem w_3_101 : Cond.code ⟨"TruckPlatoons$Plan", "arrange", "()V"⟩ prog_8_method_6_code 6 (Option.none : Option Jvm.ClassFile.FieldType) ∈ lw_big := x_t3 (List.mem_of_getElem? (i := 101) rfl) rfl
theorem w_3_102 : Cond.methodLink "TruckPlatoons$Plan" 98 ⟨"TruckPlatoons$Plan", "setTimes", "(I)V"⟩ ∈ lw_big := x_t3 (List.mem_of_getElem? (i := 102) rfl) rfl
theorem w_3_103 : Cond.instanceMethod ⟨"TruckPlatoons$Plan", "setTimes", "(I)V"⟩ ∈ lw_big := x_t3 (List.mem_of_getElem? (i := 103) rfl) rfl
theorem w_3_104 : Cond.selects "TruckPlatoons$Plan" ⟨"TruckPlatoons$Plan", "setTimes", "(I)V"⟩ ⟨"TruckPlatoons$Plan", "setTimes", "(I)V"⟩ ∈ lw_big := x_t3 (List.mem_of_getElem? (i := 104) rfl) rfl
theorem w_3_105 : Cond.code ⟨"TruckPlatoons$Plan", "setTimes", "(I)V"⟩ prog_8_method_7_code 4 (Option.none : Option Jvm.ClassFile.FieldType) ∈ lw_big := x_t3 (List.mem_of_getElem? (i := 105) rfl) rfl
theorem w_3_106 : Cond.methodLink "TruckPlatoons$Plan" 126 ⟨"TruckPlatoons$Fleet", "minutes", "(II)I"⟩ ∈ lw_big := x_t3 (List.mem_of_getElem? (i := 106) rfl) rfl
theorem w_3_107 : Cond.instanceMethod ⟨"TruckPlatoons$Fleet", "minutes", "(II)I"⟩ ∈ lw_big := x_t3 (List.mem_of_getElem? (i := 107) rfl) rfl
theorem w_3_108 : Cond.selects "TruckPlatoons$Fleet" ⟨"TruckPlatoons$Fleet", "minutes", "(II)I"⟩ ⟨"TruckPlatoons$Fleet", "minutes", "(II)I"⟩ ∈ lw_big := x_t3 (List.mem_of_getElem? (i := 108) rfl) rfl
theorem w_3_109 : Cond.code ⟨"TruckPlatoons$Fleet", "minutes", "(II)I"⟩ prog_3_method_6_code 3 (Option.some FieldType.int) ∈ lw_big := x_t3 (List.mem_of_getElem? (i := 109) rfl) rfl
theorem w_3_110 : Cond.methodLink "TruckPlatoons$Plan" 108 ⟨"TruckPlatoons$Plan", "sortByTime", "(II)V"⟩ ∈ lw_big := x_t3 (List.mem_of_getElem? (i := 110) rfl) rfl
theorem w_3_112 : Cond.instanceMethod ⟨"TruckPlatoons$Plan", "sortByTime", "(II)V"⟩ ∈ lw_big := x_t3 (List.mem_of_getElem? (i := 112) rfl) rfl
theorem w_3_113 : Cond.code ⟨"TruckPlatoons$Plan", "sortByTime", "(II)V"⟩ prog_8_method_8_code 6 (Option.none : Option Jvm.ClassFile.FieldType) ∈ lw_big := x_t3 (List.mem_of_getElem? (i := 113) rfl) rfl
theorem w_3_114 : Cond.methodLink "TruckPlatoons$Plan" 112 ⟨"TruckPlatoons$Plan", "isEarlier", "(II)Z"⟩ ∈ lw_big := x_t3 (List.mem_of_getElem? (i := 114) rfl) rfl
theorem w_3_116 : Cond.instanceMethod ⟨"TruckPlatoons$Plan", "isEarlier", "(II)Z"⟩ ∈ lw_big := x_t3 (List.mem_of_getElem? (i := 116) rfl) rfl
theorem w_3_117 : Cond.code ⟨"TruckPlatoons$Plan", "isEarlier", "(II)Z"⟩ prog_8_method_9_code 3 (Option.some FieldType.boolean) ∈ lw_big := x_t3 (List.mem_of_getElem? (i := 117) rfl) rfl
theorem w_3_118 : Cond.methodLink "TruckPlatoons$Plan" 116 ⟨"TruckPlatoons$Plan", "setKeys", "(II)V"⟩ ∈ lw_big := x_t3 (List.mem_of_getElem? (i := 118) rfl) rfl
theorem w_3_120 : Cond.instanceMethod ⟨"TruckPlatoons$Plan", "setKeys", "(II)V"⟩ ∈ lw_big := x_t3 (List.mem_of_getElem? (i := 120) rfl) rfl
theorem w_3_121 : Cond.code ⟨"TruckPlatoons$Plan", "setKeys", "(II)V"⟩ prog_8_method_10_code 7 (Option.none : Option Jvm.ClassFile.FieldType) ∈ lw_big := x_t3 (List.mem_of_getElem? (i := 121) rfl) rfl
theorem w_3_122 : Cond.methodLink "TruckPlatoons$Plan" 129 ⟨"TruckPlatoons$Routes", "sharedPlaces", "(II)I"⟩ ∈ lw_big := x_t3 (List.mem_of_getElem? (i := 122) rfl) rfl
theorem w_3_123 : Cond.methodLink "TruckPlatoons$Plan" 119 ⟨"TruckPlatoons$Plan", "sortByKey", "(II)V"⟩ ∈ lw_big := x_t3 (List.mem_of_getElem? (i := 123) rfl) rfl
theorem w_3_125 : Cond.instanceMethod ⟨"TruckPlatoons$Plan", "sortByKey", "(II)V"⟩ ∈ lw_big := x_t3 (List.mem_of_getElem? (i := 125) rfl) rfl
theorem w_3_126 : Cond.code ⟨"TruckPlatoons$Plan", "sortByKey", "(II)V"⟩ prog_8_method_11_code 6 (Option.none : Option Jvm.ClassFile.FieldType) ∈ lw_big := x_t3 (List.mem_of_getElem? (i := 126) rfl) rfl
theorem w_3_127 : Cond.methodLink "TruckPlatoons$Plan" 132 ⟨"TruckPlatoons$Plan", "isAhead", "(II)Z"⟩ ∈ lw_big := x_t3 (List.mem_of_getElem? (i := 127) rfl) rfl
theorem w_3_129 : Cond.instanceMethod ⟨"TruckPlatoons$Plan", "isAhead", "(II)Z"⟩ ∈ lw_big := x_t3 (List.mem_of_getElem? (i := 129) rfl) rfl
theorem w_3_130 : Cond.code ⟨"TruckPlatoons$Plan", "isAhead", "(II)Z"⟩ prog_8_method_12_code 3 (Option.some FieldType.boolean) ∈ lw_big := x_t3 (List.mem_of_getElem? (i := 130) rfl) rfl
theorem w_3_131 : Cond.methodLink "TruckPlatoons$Plan" 122 ⟨"TruckPlatoons$Plan", "setPlatoon", "(III)V"⟩ ∈ lw_big := x_t3 (List.mem_of_getElem? (i := 131) rfl) rfl
theorem w_3_133 : Cond.instanceMethod ⟨"TruckPlatoons$Plan", "setPlatoon", "(III)V"⟩ ∈ lw_big := x_t3 (List.mem_of_getElem? (i := 133) rfl) rfl
theorem w_3_134 : Cond.code ⟨"TruckPlatoons$Plan", "setPlatoon", "(III)V"⟩ prog_8_method_13_code 7 (Option.none : Option Jvm.ClassFile.FieldType) ∈ lw_big := x_t3 (List.mem_of_getElem? (i := 134) rfl) rfl
theorem w_3_135 : Cond.methodLink "TruckPlatoons$Plan" 135 ⟨"TruckPlatoons$Plan", "base", "(I)I"⟩ ∈ lw_big := x_t3 (List.mem_of_getElem? (i := 135) rfl) rfl
theorem w_3_136 : Cond.instanceMethod ⟨"TruckPlatoons$Plan", "base", "(I)I"⟩ ∈ lw_big := x_t3 (List.mem_of_getElem? (i := 136) rfl) rfl
theorem w_3_137 : Cond.selects "TruckPlatoons$Plan" ⟨"TruckPlatoons$Plan", "base", "(I)I"⟩ ⟨"TruckPlatoons$Plan", "base", "(I)I"⟩ ∈ lw_big := x_t3 (List.mem_of_getElem? (i := 137) rfl) rfl
theorem w_3_138 : Cond.code ⟨"TruckPlatoons$Plan", "base", "(I)I"⟩ prog_8_method_25_code 2 (Option.some FieldType.int) ∈ lw_big := x_t3 (List.mem_of_getElem? (i := 138) rfl) rfl
theorem w_3_139 : Cond.methodLink "TruckPlatoons$Plan" 139 ⟨"TruckPlatoons$Plan", "distanceAt", "([II)I"⟩ ∈ lw_big := x_t3 (List.mem_of_getElem? (i := 139) rfl) rfl
theorem w_3_141 : Cond.instanceMethod ⟨"TruckPlatoons$Plan", "distanceAt", "([II)I"⟩ ∈ lw_big := x_t3 (List.mem_of_getElem? (i := 141) rfl) rfl
theorem w_3_142 : Cond.code ⟨"TruckPlatoons$Plan", "distanceAt", "([II)I"⟩ prog_8_method_14_code 5 (Option.some FieldType.int) ∈ lw_big := x_t3 (List.mem_of_getElem? (i := 142) rfl) rfl
theorem w_3_143 : Cond.methodLink "TruckPlatoons$Plan" 143 ⟨"TruckPlatoons$Plan", "closesUpAt", "([III)Z"⟩ ∈ lw_big := x_t3 (List.mem_of_getElem? (i := 143) rfl) rfl
theorem w_3_145 : Cond.instanceMethod ⟨"TruckPlatoons$Plan", "closesUpAt", "([III)Z"⟩ ∈ lw_big := x_t3 (List.mem_of_getElem? (i := 145) rfl) rfl
theorem w_3_146 : Cond.code ⟨"TruckPlatoons$Plan", "closesUpAt", "([III)Z"⟩ prog_8_method_15_code 6 (Option.some FieldType.boolean) ∈ lw_big := x_t3 (List.mem_of_getElem? (i := 146) rfl) rfl
theorem w_3_147 : Cond.methodLink "TruckPlatoons$Plan" 147 ⟨"TruckPlatoons$Plan", "shareByDistance", "(I)I"⟩ ∈ lw_big := x_t3 (List.mem_of_getElem? (i := 147) rfl) rfl
theorem w_3_148 : Cond.static ⟨"TruckPlatoons$Plan", "shareByDistance", "(I)I"⟩ ∈ lw_big := x_t3 (List.mem_of_getElem? (i := 148) rfl) rfl
theorem w_3_149 : Cond.code ⟨"TruckPlatoons$Plan", "shareByDistance", "(I)I"⟩ prog_8_method_16_code 1 (Option.some FieldType.int) ∈ lw_big := x_t3 (List.mem_of_getElem? (i := 149) rfl) rfl
theorem w_3_150 : Cond.methodLink "TruckPlatoons" 121 ⟨"TruckPlatoons$History", "forgetEdits", "()V"⟩ ∈ lw_big := x_t3 (List.mem_of_getElem? (i := 150) rfl) rfl
theorem w_3_151 : Cond.instanceMethod ⟨"TruckPlatoons$History", "forgetEdits", "()V"⟩ ∈ lw_big := x_t3 (List.mem_of_getElem? (i := 151) rfl) rfl
theorem w_3_152 : Cond.selects "TruckPlatoons$History" ⟨"TruckPlatoons$History", "forgetEdits", "()V"⟩ ⟨"TruckPlatoons$History", "forgetEdits", "()V"⟩ ∈ lw_big := x_t3 (List.mem_of_getElem? (i := 152) rfl) rfl
theorem w_3_153 : Cond.code ⟨"TruckPlatoons$History", "forgetEdits", "()V"⟩ prog_4_method_4_code 1 (Option.none : Option Jvm.ClassFile.FieldType) ∈ lw_big := x_t3 (List.mem_of_getElem? (i := 153) rfl) rfl
theorem w_3_154 : Cond.methodLink "TruckPlatoons" 124 ⟨"TruckPlatoons$History", "forgetSnapshots", "()V"⟩ ∈ lw_big := x_t3 (List.mem_of_getElem? (i := 154) rfl) rfl
theorem w_3_155 : Cond.instanceMethod ⟨"TruckPlatoons$History", "forgetSnapshots", "()V"⟩ ∈ lw_big := x_t3 (List.mem_of_getElem? (i := 155) rfl) rfl
theorem w_3_156 : Cond.selects "TruckPlatoons$History" ⟨"TruckPlatoons$History", "forgetSnapshots", "()V"⟩ ⟨"TruckPlatoons$History", "forgetSnapshots", "()V"⟩ ∈ lw_big := x_t3 (List.mem_of_getElem? (i := 156) rfl) rfl
theorem w_3_157 : Cond.code ⟨"TruckPlatoons$History", "forgetSnapshots", "()V"⟩ prog_4_method_7_code 2 (Option.none : Option Jvm.ClassFile.FieldType) ∈ lw_big := x_t3 (List.mem_of_getElem? (i := 157) rfl) rfl
theorem w_3_158 : Cond.methodLink "TruckPlatoonsLaw" 129 ⟨"TruckPlatoons", "errorCode", "()I"⟩ ∈ lw_big := x_t3 (List.mem_of_getElem? (i := 158) rfl) rfl
theorem w_3_159 : Cond.instanceMethod ⟨"TruckPlatoons", "errorCode", "()I"⟩ ∈ lw_big := x_t3 (List.mem_of_getElem? (i := 159) rfl) rfl
theorem w_3_160 : Cond.selects "TruckPlatoons" ⟨"TruckPlatoons", "errorCode", "()I"⟩ ⟨"TruckPlatoons", "errorCode", "()I"⟩ ∈ lw_big := x_t3 (List.mem_of_getElem? (i := 160) rfl) rfl
theorem w_3_161 : Cond.code ⟨"TruckPlatoons", "errorCode", "()I"⟩ prog_1_method_5_code 1 (Option.some FieldType.int) ∈ lw_big := x_t3 (List.mem_of_getElem? (i := 161) rfl) rfl
theorem w_3_162 : Cond.methodLink "TruckPlatoonsLaw" 133 ⟨"TruckPlatoons", "errorPosition", "()I"⟩ ∈ lw_big := x_t3 (List.mem_of_getElem? (i := 162) rfl) rfl
theorem w_3_163 : Cond.instanceMethod ⟨"TruckPlatoons", "errorPosition", "()I"⟩ ∈ lw_big := x_t3 (List.mem_of_getElem? (i := 163) rfl) rfl
theorem w_3_164 : Cond.selects "TruckPlatoons" ⟨"TruckPlatoons", "errorPosition", "()I"⟩ ⟨"TruckPlatoons", "errorPosition", "()I"⟩ ∈ lw_big := x_t3 (List.mem_of_getElem? (i := 164) rfl) rfl
theorem w_3_165 : Cond.code ⟨"TruckPlatoons", "errorPosition", "()I"⟩ prog_1_method_6_code 1 (Option.some FieldType.int) ∈ lw_big := x_t3 (List.mem_of_getElem? (i := 165) rfl) rfl
theorem w_3_166 : Cond.methodLink "TruckPlatoonsLaw" 137 ⟨"TruckPlatoons", "count", "(I)I"⟩ ∈ lw_big := x_t3 (List.mem_of_getElem? (i := 166) rfl) rfl
theorem w_3_167 : Cond.instanceMethod ⟨"TruckPlatoons", "count", "(I)I"⟩ ∈ lw_big := x_t3 (List.mem_of_getElem? (i := 167) rfl) rfl
theorem w_3_168 : Cond.selects "TruckPlatoons" ⟨"TruckPlatoons", "count", "(I)I"⟩ ⟨"TruckPlatoons", "count", "(I)I"⟩ ∈ lw_big := x_t3 (List.mem_of_getElem? (i := 168) rfl) rfl
theorem w_3_169 : Cond.code ⟨"TruckPlatoons", "count", "(I)I"⟩ prog_1_method_7_code 2 (Option.some FieldType.int) ∈ lw_big := x_t3 (List.mem_of_getElem? (i := 169) rfl) rfl
theorem w_3_170 : Cond.methodLink "TruckPlatoons" 139 ⟨"TruckPlatoons$Routes", "allStops", "()I"⟩ ∈ lw_big := x_t3 (List.mem_of_getElem? (i := 170) rfl) rfl
theorem w_3_171 : Cond.instanceMethod ⟨"TruckPlatoons$Routes", "allStops", "()I"⟩ ∈ lw_big := x_t3 (List.mem_of_getElem? (i := 171) rfl) rfl
theorem w_3_172 : Cond.selects "TruckPlatoons$Routes" ⟨"TruckPlatoons$Routes", "allStops", "()I"⟩ ⟨"TruckPlatoons$Routes", "allStops", "()I"⟩ ∈ lw_big := x_t3 (List.mem_of_getElem? (i := 172) rfl) rfl
theorem w_3_173 : Cond.code ⟨"TruckPlatoons$Routes", "allStops", "()I"⟩ prog_9_method_7_code 1 (Option.some FieldType.int) ∈ lw_big := x_t3 (List.mem_of_getElem? (i := 173) rfl) rfl
theorem w_3_174 : Cond.methodLink "TruckPlatoons" 143 ⟨"TruckPlatoons", "companies", "()I"⟩ ∈ lw_big := x_t3 (List.mem_of_getElem? (i := 174) rfl) rfl
theorem w_3_176 : Cond.instanceMethod ⟨"TruckPlatoons", "companies", "()I"⟩ ∈ lw_big := x_t3 (List.mem_of_getElem? (i := 176) rfl) rfl
theorem w_3_177 : Cond.code ⟨"TruckPlatoons", "companies", "()I"⟩ prog_1_method_8_code 4 (Option.some FieldType.int) ∈ lw_big := x_t3 (List.mem_of_getElem? (i := 177) rfl) rfl
theorem w_3_178 : Cond.methodLink "TruckPlatoons" 177 ⟨"TruckPlatoons$Plan", "inCompany", "(I)Z"⟩ ∈ lw_big := x_t3 (List.mem_of_getElem? (i := 178) rfl) rfl
theorem w_3_179 : Cond.instanceMethod ⟨"TruckPlatoons$Plan", "inCompany", "(I)Z"⟩ ∈ lw_big := x_t3 (List.mem_of_getElem? (i := 179) rfl) rfl
theorem w_3_180 : Cond.selects "TruckPlatoons$Plan" ⟨"TruckPlatoons$Plan", "inCompany", "(I)Z"⟩ ⟨"TruckPlatoons$Plan", "inCompany", "(I)Z"⟩ ∈ lw_big := x_t3 (List.mem_of_getElem? (i := 180) rfl) rfl
theorem w_3_181 : Cond.code ⟨"TruckPlatoons$Plan", "inCompany", "(I)Z"⟩ prog_8_method_34_code 2 (Option.some FieldType.boolean) ∈ lw_big := x_t3 (List.mem_of_getElem? (i := 181) rfl) rfl
theorem w_3_182 : Cond.methodLink "TruckPlatoons" 146 ⟨"TruckPlatoons", "lateSet", "()I"⟩ ∈ lw_big := x_t3 (List.mem_of_getElem? (i := 182) rfl) rfl
theorem w_3_184 : Cond.instanceMethod ⟨"TruckPlatoons", "lateSet", "()I"⟩ ∈ lw_big := x_t3 (List.mem_of_getElem? (i := 184) rfl) rfl
theorem w_3_185 : Cond.code ⟨"TruckPlatoons", "lateSet", "()I"⟩ prog_1_method_10_code 3 (Option.some FieldType.int) ∈ lw_big := x_t3 (List.mem_of_getElem? (i := 185) rfl) rfl
theorem w_3_186 : Cond.methodLink "TruckPlatoons" 186 ⟨"TruckPlatoons$Plan", "isLate", "(I)Z"⟩ ∈ lw_big := x_t3 (List.mem_of_getElem? (i := 186) rfl) rfl
theorem w_3_187 : Cond.instanceMethod ⟨"TruckPlatoons$Plan", "isLate", "(I)Z"⟩ ∈ lw_big := x_t3 (List.mem_of_getElem? (i := 187) rfl) rfl
theorem w_3_188 : Cond.selects "TruckPlatoons$Plan" ⟨"TruckPlatoons$Plan", "isLate", "(I)Z"⟩ ⟨"TruckPlatoons$Plan", "isLate", "(I)Z"⟩ ∈ lw_big := x_t3 (List.mem_of_getElem? (i := 188) rfl) rfl
theorem w_3_189 : Cond.code ⟨"TruckPlatoons$Plan", "isLate", "(I)Z"⟩ prog_8_method_23_code 2 (Option.some FieldType.boolean) ∈ lw_big := x_t3 (List.mem_of_getElem? (i := 189) rfl) rfl
theorem w_3_190 : Cond.methodLink "TruckPlatoons$Plan" 159 ⟨"TruckPlatoons$Plan", "arrival", "(I)I"⟩ ∈ lw_big := x_t3 (List.mem_of_getElem? (i := 190) rfl) rfl
theorem w_3_191 : Cond.instanceMethod ⟨"TruckPlatoons$Plan", "arrival", "(I)I"⟩ ∈ lw_big := x_t3 (List.mem_of_getElem? (i := 191) rfl) rfl
theorem w_3_192 : Cond.selects "TruckPlatoons$Plan" ⟨"TruckPlatoons$Plan", "arrival", "(I)I"⟩ ⟨"TruckPlatoons$Plan", "arrival", "(I)I"⟩ ∈ lw_big := x_t3 (List.mem_of_getElem? (i := 192) rfl) rfl
theorem w_3_193 : Cond.code ⟨"TruckPlatoons$Plan", "arrival", "(I)I"⟩ prog_8_method_22_code 2 (Option.some FieldType.int) ∈ lw_big := x_t3 (List.mem_of_getElem? (i := 193) rfl) rfl
theorem w_3_194 : Cond.methodLink "TruckPlatoons" 149 ⟨"java/lang/Integer", "bitCount", "(I)I"⟩ ∈ lw_big := x_t3 (List.mem_of_getElem? (i := 194) rfl) rfl
theorem w_3_195 : Cond.static ⟨"java/lang/Integer", "bitCount", "(I)I"⟩ ∈ lw_big := x_t3 (List.mem_of_getElem? (i := 195) rfl) rfl
theorem w_3_196 : Cond.code ⟨"java/lang/Integer", "bitCount", "(I)I"⟩ prog_21_method_49_code 1 (Option.some FieldType.int) ∈ lw_big := x_t3 (List.mem_of_getElem? (i := 196) rfl) rfl
theorem w_3_197 : Cond.constant "java/lang/Integer" 265 (1431655765 : Int32) ∈ lw_big := x_t3 (List.mem_of_getElem? (i := 197) rfl) rfl
theorem w_3_198 : Cond.constant "java/lang/Integer" 266 (858993459 : Int32) ∈ lw_big := x_t3 (List.mem_of_getElem? (i := 198) rfl) rfl
theorem w_3_199 : Cond.constant "java/lang/Integer" 267 (252645135 : Int32) ∈ lw_big := x_t3 (List.mem_of_getElem? (i := 199) rfl) rfl
theorem w_3_200 : Cond.methodLink "TruckPlatoons" 158 ⟨"TruckPlatoons$Plan", "savedOnRows", "(II)I"⟩ ∈ lw_big := x_t3 (List.mem_of_getElem? (i := 200) rfl) rfl
theorem w_3_201 : Cond.instanceMethod ⟨"TruckPlatoons$Plan", "savedOnRows", "(II)I"⟩ ∈ lw_big := x_t3 (List.mem_of_getElem? (i := 201) rfl) rfl
theorem w_3_202 : Cond.selects "TruckPlatoons$Plan" ⟨"TruckPlatoons$Plan", "savedOnRows", "(II)I"⟩ ⟨"TruckPlatoons$Plan", "savedOnRows", "(II)I"⟩ ∈ lw_big := x_t3 (List.mem_of_getElem? (i := 202) rfl) rfl
theorem w_3_203 : Cond.code ⟨"TruckPlatoons$Plan", "savedOnRows", "(II)I"⟩ prog_8_method_31_code 5 (Option.some FieldType.int) ∈ lw_big := x_t3 (List.mem_of_getElem? (i := 203) rfl) rfl
theorem w_3_204 : Cond.methodLink "TruckPlatoons" 162 ⟨"TruckPlatoons$Plan", "closedOnRows", "(II)I"⟩ ∈ lw_big := x_t3 (List.mem_of_getElem? (i := 204) rfl) rfl
theorem w_3_205 : Cond.instanceMethod ⟨"TruckPlatoons$Plan", "closedOnRows", "(II)I"⟩ ∈ lw_big := x_t3 (List.mem_of_getElem? (i := 205) rfl) rfl
theorem w_3_206 : Cond.selects "TruckPlatoons$Plan" ⟨"TruckPlatoons$Plan", "closedOnRows", "(II)I"⟩ ⟨"TruckPlatoons$Plan", "closedOnRows", "(II)I"⟩ ∈ lw_big := x_t3 (List.mem_of_getElem? (i := 206) rfl) rfl
theorem w_3_207 : Cond.code ⟨"TruckPlatoons$Plan", "closedOnRows", "(II)I"⟩ prog_8_method_32_code 5 (Option.some FieldType.int) ∈ lw_big := x_t3 (List.mem_of_getElem? (i := 207) rfl) rfl
theorem w_3_208 : Cond.methodLink "TruckPlatoons" 168 ⟨"TruckPlatoons", "greatestPlatoon", "()I"⟩ ∈ lw_big := x_t3 (List.mem_of_getElem? (i := 208) rfl) rfl
theorem w_3_210 : Cond.instanceMethod ⟨"TruckPlatoons", "greatestPlatoon", "()I"⟩ ∈ lw_big := x_t3 (List.mem_of_getElem? (i := 210) rfl) rfl
theorem w_3_211 : Cond.code ⟨"TruckPlatoons", "greatestPlatoon", "()I"⟩ prog_1_method_9_code 3 (Option.some FieldType.int) ∈ lw_big := x_t3 (List.mem_of_getElem? (i := 211) rfl) rfl
theorem w_3_212 : Cond.methodLink "TruckPlatoons" 181 ⟨"java/lang/Math", "max", "(II)I"⟩ ∈ lw_big := x_t3 (List.mem_of_getElem? (i := 212) rfl) rfl
theorem w_3_213 : Cond.static ⟨"java/lang/Math", "max", "(II)I"⟩ ∈ lw_big := x_t3 (List.mem_of_getElem? (i := 213) rfl) rfl
theorem w_3_214 : Cond.code ⟨"java/lang/Math", "max", "(II)I"⟩ prog_22_method_65_code 2 (Option.some FieldType.int) ∈ lw_big := x_t3 (List.mem_of_getElem? (i := 214) rfl) rfl
theorem w_3_215 : Cond.methodLink "TruckPlatoonsLaw" 212 ⟨"TruckPlatoons", "mergeAll", "()I"⟩ ∈ lw_big := x_t3 (List.mem_of_getElem? (i := 215) rfl) rfl
theorem w_3_216 : Cond.instanceMethod ⟨"TruckPlatoons", "mergeAll", "()I"⟩ ∈ lw_big := x_t3 (List.mem_of_getElem? (i := 216) rfl) rfl
theorem w_3_217 : Cond.selects "TruckPlatoons" ⟨"TruckPlatoons", "mergeAll", "()I"⟩ ⟨"TruckPlatoons", "mergeAll", "()I"⟩ ∈ lw_big := x_t3 (List.mem_of_getElem? (i := 217) rfl) rfl
theorem w_3_218 : Cond.code ⟨"TruckPlatoons", "mergeAll", "()I"⟩ prog_1_method_36_code 1 (Option.some FieldType.int) ∈ lw_big := x_t3 (List.mem_of_getElem? (i := 218) rfl) rfl
theorem w_3_219 : Cond.methodLink "TruckPlatoons" 364 ⟨"TruckPlatoons", "mergeByGain", "()I"⟩ ∈ lw_big := x_t3 (List.mem_of_getElem? (i := 219) rfl) rfl
theorem w_3_221 : Cond.instanceMethod ⟨"TruckPlatoons", "mergeByGain", "()I"⟩ ∈ lw_big := x_t3 (List.mem_of_getElem? (i := 221) rfl) rfl
theorem w_3_222 : Cond.code ⟨"TruckPlatoons", "mergeByGain", "()I"⟩ prog_1_method_37_code 2 (Option.some FieldType.int) ∈ lw_big := x_t3 (List.mem_of_getElem? (i := 222) rfl) rfl
theorem w_3_223 : Cond.methodLink "TruckPlatoons" 336 ⟨"TruckPlatoons$History", "keep", "(LTruckPlatoons$Plan;)V"⟩ ∈ lw_big := x_t3 (List.mem_of_getElem? (i := 223) rfl) rfl
theorem w_3_224 : Cond.instanceMethod ⟨"TruckPlatoons$History", "keep", "(LTruckPlatoons$Plan;)V"⟩ ∈ lw_big := x_t3 (List.mem_of_getElem? (i := 224) rfl) rfl
theorem w_3_225 : Cond.selects "TruckPlatoons$History" ⟨"TruckPlatoons$History", "keep", "(LTruckPlatoons$Plan;)V"⟩ ⟨"TruckPlatoons$History", "keep", "(LTruckPlatoons$Plan;)V"⟩ ∈ lw_big := x_t3 (List.mem_of_getElem? (i := 225) rfl) rfl
theorem w_3_226 : Cond.code ⟨"TruckPlatoons$History", "keep", "(LTruckPlatoons$Plan;)V"⟩ prog_4_method_2_code 2 (Option.none : Option Jvm.ClassFile.FieldType) ∈ lw_big := x_t3 (List.mem_of_getElem? (i := 226) rfl) rfl
theorem w_3_227 : Cond.methodLink "TruckPlatoons$History" 30 ⟨"TruckPlatoons$Plan", "writeChoices", "([I)V"⟩ ∈ lw_big := x_t3 (List.mem_of_getElem? (i := 227) rfl) rfl
theorem w_3_228 : Cond.instanceMethod ⟨"TruckPlatoons$Plan", "writeChoices", "([I)V"⟩ ∈ lw_big := x_t3 (List.mem_of_getElem? (i := 228) rfl) rfl
theorem w_3_229 : Cond.selects "TruckPlatoons$Plan" ⟨"TruckPlatoons$Plan", "writeChoices", "([I)V"⟩ ⟨"TruckPlatoons$Plan", "writeChoices", "([I)V"⟩ ∈ lw_big := x_t3 (List.mem_of_getElem? (i := 229) rfl) rfl
theorem w_3_230 : Cond.code ⟨"TruckPlatoons$Plan", "writeChoices", "([I)V"⟩ prog_8_method_4_code 2 (Option.none : Option Jvm.ClassFile.FieldType) ∈ lw_big := x_t3 (List.mem_of_getElem? (i := 230) rfl) rfl
theorem w_3_231 : Cond.methodLink "TruckPlatoons$History" 34 ⟨"java/lang/Math", "min", "(II)I"⟩ ∈ lw_big := x_t3 (List.mem_of_getElem? (i := 231) rfl) rfl
theorem w_3_232 : Cond.methodLink "TruckPlatoons" 367 ⟨"TruckPlatoons", "mergeBestTwo", "()Z"⟩ ∈ lw_big := x_t3 (List.mem_of_getElem? (i := 232) rfl) rfl
theorem w_3_234 : Cond.instanceMethod ⟨"TruckPlatoons", "mergeBestTwo", "()Z"⟩ ∈ lw_big := x_t3 (List.mem_of_getElem? (i := 234) rfl) rfl
theorem w_3_235 : Cond.code ⟨"TruckPlatoons", "mergeBestTwo", "()Z"⟩ prog_1_method_38_code 6 (Option.some FieldType.boolean) ∈ lw_big := x_t3 (List.mem_of_getElem? (i := 235) rfl) rfl
theorem w_3_236 : Cond.methodLink "TruckPlatoons" 348 ⟨"TruckPlatoons$Merger", "attempt", "(II)I"⟩ ∈ lw_big := x_t3 (List.mem_of_getElem? (i := 236) rfl) rfl
theorem w_3_237 : Cond.instanceMethod ⟨"TruckPlatoons$Merger", "attempt", "(II)I"⟩ ∈ lw_big := x_t3 (List.mem_of_getElem? (i := 237) rfl) rfl
theorem w_3_238 : Cond.selects "TruckPlatoons$Merger" ⟨"TruckPlatoons$Merger", "attempt", "(II)I"⟩ ⟨"TruckPlatoons$Merger", "attempt", "(II)I"⟩ ∈ lw_big := x_t3 (List.mem_of_getElem? (i := 238) rfl) rfl
theorem w_3_239 : Cond.code ⟨"TruckPlatoons$Merger", "attempt", "(II)I"⟩ prog_6_method_3_code 4 (Option.some FieldType.int) ∈ lw_big := x_t3 (List.mem_of_getElem? (i := 239) rfl) rfl
theorem w_4_0 : Cond.methodLink "TruckPlatoons$Merger" 57 ⟨"TruckPlatoons$Merger", "findRun", "(II)V"⟩ ∈ lw_big := x_t4 (List.mem_of_getElem? (i := 0) rfl) rfl
theorem w_4_1 : Cond.instanceMethod ⟨"TruckPlatoons$Merger", "findRun", "(II)V"⟩ ∈ lw_big := x_t4 (List.mem_of_getElem? (i := 1) rfl) rfl
theorem w_4_2 : Cond.selects "TruckPlatoons$Merger" ⟨"TruckPlatoons$Merger", "findRun", "(II)V"⟩ ⟨"TruckPlatoons$Merger", "findRun", "(II)V"⟩ ∈ lw_big := x_t4 (List.mem_of_getElem? (i := 2) rfl) rfl
theorem w_4_3 : Cond.code ⟨"TruckPlatoons$Merger", "findRun", "(II)V"⟩ prog_6_method_2_code 6 (Option.none : Option Jvm.ClassFile.FieldType) ∈ lw_big := x_t4 (List.mem_of_getElem? (i := 3) rfl) rfl
theorem w_4_5 : Cond.methodLink "TruckPlatoons$Merger" 54 ⟨"TruckPlatoons$Routes", "sharedPlaces", "(II)I"⟩ ∈ lw_big := x_t4 (List.mem_of_getElem? (i := 5) rfl) rfl
theorem w_4_6 : Cond.methodLink "TruckPlatoons$Merger" 61 ⟨"TruckPlatoons$Plan", "ready", "(II)I"⟩ ∈ lw_big := x_t4 (List.mem_of_getElem? (i := 6) rfl) rfl
theorem w_4_7 : Cond.instanceMethod ⟨"TruckPlatoons$Plan", "ready", "(II)I"⟩ ∈ lw_big := x_t4 (List.mem_of_getElem? (i := 7) rfl) rfl
theorem w_4_8 : Cond.selects "TruckPlatoons$Plan" ⟨"TruckPlatoons$Plan", "ready", "(II)I"⟩ ⟨"TruckPlatoons$Plan", "ready", "(II)I"⟩ ∈ lw_big := x_t4 (List.mem_of_getElem? (i := 8) rfl) rfl
theorem w_4_9 : Cond.code ⟨"TruckPlatoons$Plan", "ready", "(II)I"⟩ prog_8_method_21_code 3 (Option.some FieldType.int) ∈ lw_big := x_t4 (List.mem_of_getElem? (i := 9) rfl) rfl
theorem w_4_11 : Cond.methodLink "TruckPlatoons$Merger" 66 ⟨"java/lang/Math", "abs", "(I)I"⟩ ∈ lw_big := x_t4 (List.mem_of_getElem? (i := 11) rfl) rfl
theorem w_4_12 : Cond.static ⟨"java/lang/Math", "abs", "(I)I"⟩ ∈ lw_big := x_t4 (List.mem_of_getElem? (i := 12) rfl) rfl
theorem w_4_13 : Cond.code ⟨"java/lang/Math", "abs", "(I)I"⟩ prog_22_method_59_code 1 (Option.some FieldType.int) ∈ lw_big := x_t4 (List.mem_of_getElem? (i := 13) rfl) rfl
theorem w_4_14 : Cond.methodLink "TruckPlatoons$Merger" 72 ⟨"TruckPlatoons$Plan", "copyChoices", "(LTruckPlatoons$Plan;)V"⟩ ∈ lw_big := x_t4 (List.mem_of_getElem? (i := 14) rfl) rfl
theorem w_4_15 : Cond.instanceMethod ⟨"TruckPlatoons$Plan", "copyChoices", "(LTruckPlatoons$Plan;)V"⟩ ∈ lw_big := x_t4 (List.mem_of_getElem? (i := 15) rfl) rfl
theorem w_4_16 : Cond.selects "TruckPlatoons$Plan" ⟨"TruckPlatoons$Plan", "copyChoices", "(LTruckPlatoons$Plan;)V"⟩ ⟨"TruckPlatoons$Plan", "copyChoices", "(LTruckPlatoons$Plan;)V"⟩ ∈ lw_big := x_t4 (List.mem_of_getElem? (i := 16) rfl) rfl
theorem w_4_17 : Cond.code ⟨"TruckPlatoons$Plan", "copyChoices", "(LTruckPlatoons$Plan;)V"⟩ prog_8_method_3_code 2 (Option.none : Option Jvm.ClassFile.FieldType) ∈ lw_big := x_t4 (List.mem_of_getElem? (i := 17) rfl) rfl
theorem w_4_18 : Cond.methodLink "TruckPlatoons$Merger" 76 ⟨"TruckPlatoons$Merger", "drive", "(III)V"⟩ ∈ lw_big := x_t4 (List.mem_of_getElem? (i := 18) rfl) rfl
theorem w_4_20 : Cond.instanceMethod ⟨"TruckPlatoons$Merger", "drive", "(III)V"⟩ ∈ lw_big := x_t4 (List.mem_of_getElem? (i := 20) rfl) rfl
theorem w_4_21 : Cond.code ⟨"TruckPlatoons$Merger", "drive", "(III)V"⟩ prog_6_method_4_code 6 (Option.none : Option Jvm.ClassFile.FieldType) ∈ lw_big := x_t4 (List.mem_of_getElem? (i := 21) rfl) rfl
theorem w_4_22 : Cond.methodLink "TruckPlatoons$Merger" 91 ⟨"java/lang/Math", "min", "(II)I"⟩ ∈ lw_big := x_t4 (List.mem_of_getElem? (i := 22) rfl) rfl
theorem w_4_23 : Cond.methodLink "TruckPlatoons$Merger" 97 ⟨"java/lang/Math", "max", "(II)I"⟩ ∈ lw_big := x_t4 (List.mem_of_getElem? (i := 23) rfl) rfl
theorem w_4_24 : Cond.methodLink "TruckPlatoons$Merger" 80 ⟨"TruckPlatoons$Plan", "setTimes", "(I)V"⟩ ∈ lw_big := x_t4 (List.mem_of_getElem? (i := 24) rfl) rfl
theorem w_4_25 : Cond.methodLink "TruckPlatoons$Merger" 84 ⟨"TruckPlatoons$Plan", "isLate", "(I)Z"⟩ ∈ lw_big := x_t4 (List.mem_of_getElem? (i := 25) rfl) rfl
theorem w_4_26 : Cond.methodLink "TruckPlatoons" 339 ⟨"TruckPlatoons$Plan", "arrange", "()V"⟩ ∈ lw_big := x_t4 (List.mem_of_getElem? (i := 26) rfl) rfl
theorem w_4_27 : Cond.methodLink "TruckPlatoons" 354 ⟨"TruckPlatoons$Plan", "copyChoices", "(LTruckPlatoons$Plan;)V"⟩ ∈ lw_big := x_t4 (List.mem_of_getElem? (i := 27) rfl) rfl
theorem w_4_28 : Cond.methodLink "TruckPlatoonsLaw" 225 ⟨"TruckPlatoons", "alone", "()I"⟩ ∈ lw_big := x_t4 (List.mem_of_getElem? (i := 28) rfl) rfl
theorem w_4_29 : Cond.instanceMethod ⟨"TruckPlatoons", "alone", "()I"⟩ ∈ lw_big := x_t4 (List.mem_of_getElem? (i := 29) rfl) rfl
theorem w_4_30 : Cond.selects "TruckPlatoons" ⟨"TruckPlatoons", "alone", "()I"⟩ ⟨"TruckPlatoons", "alone", "()I"⟩ ∈ lw_big := x_t4 (List.mem_of_getElem? (i := 30) rfl) rfl
theorem w_4_31 : Cond.code ⟨"TruckPlatoons", "alone", "()I"⟩ prog_1_method_44_code 3 (Option.some FieldType.int) ∈ lw_big := x_t4 (List.mem_of_getElem? (i := 31) rfl) rfl
theorem w_4_32 : Cond.methodLink "TruckPlatoons" 385 ⟨"TruckPlatoons$Plan", "meetsOthers", "(I)Z"⟩ ∈ lw_big := x_t4 (List.mem_of_getElem? (i := 32) rfl) rfl
theorem w_4_33 : Cond.instanceMethod ⟨"TruckPlatoons$Plan", "meetsOthers", "(I)Z"⟩ ∈ lw_big := x_t4 (List.mem_of_getElem? (i := 33) rfl) rfl
theorem w_4_34 : Cond.selects "TruckPlatoons$Plan" ⟨"TruckPlatoons$Plan", "meetsOthers", "(I)Z"⟩ ⟨"TruckPlatoons$Plan", "meetsOthers", "(I)Z"⟩ ∈ lw_big := x_t4 (List.mem_of_getElem? (i := 34) rfl) rfl
theorem w_4_35 : Cond.code ⟨"TruckPlatoons$Plan", "meetsOthers", "(I)Z"⟩ prog_8_method_35_code 3 (Option.some FieldType.boolean) ∈ lw_big := x_t4 (List.mem_of_getElem? (i := 35) rfl) rfl
theorem w_4_36 : Cond.methodLink "TruckPlatoons$Plan" 175 ⟨"TruckPlatoons$Plan", "inCompany", "(I)Z"⟩ ∈ lw_big := x_t4 (List.mem_of_getElem? (i := 36) rfl) rfl
theorem w_4_37 : Cond.methodLink "TruckPlatoonsLaw" 229 ⟨"TruckPlatoons", "lateOnes", "()I"⟩ ∈ lw_big := x_t4 (List.mem_of_getElem? (i := 37) rfl) rfl
theorem w_4_38 : Cond.instanceMethod ⟨"TruckPlatoons", "lateOnes", "()I"⟩ ∈ lw_big := x_t4 (List.mem_of_getElem? (i := 38) rfl) rfl
theorem w_4_39 : Cond.selects "TruckPlatoons" ⟨"TruckPlatoons", "lateOnes", "()I"⟩ ⟨"TruckPlatoons", "lateOnes", "()I"⟩ ∈ lw_big := x_t4 (List.mem_of_getElem? (i := 39) rfl) rfl
theorem w_4_40 : Cond.code ⟨"TruckPlatoons", "lateOnes", "()I"⟩ prog_1_method_45_code 1 (Option.some FieldType.int) ∈ lw_big := x_t4 (List.mem_of_getElem? (i := 40) rfl) rfl
theorem w_4_41 : Cond.methodLink "TruckPlatoonsLaw" 233 ⟨"TruckPlatoons", "bestRoad", "()I"⟩ ∈ lw_big := x_t4 (List.mem_of_getElem? (i := 41) rfl) rfl
theorem w_4_42 : Cond.instanceMethod ⟨"TruckPlatoons", "bestRoad", "()I"⟩ ∈ lw_big := x_t4 (List.mem_of_getElem? (i := 42) rfl) rfl
theorem w_4_43 : Cond.selects "TruckPlatoons" ⟨"TruckPlatoons", "bestRoad", "()I"⟩ ⟨"TruckPlatoons", "bestRoad", "()I"⟩ ∈ lw_big := x_t4 (List.mem_of_getElem? (i := 43) rfl) rfl
theorem w_4_44 : Cond.code ⟨"TruckPlatoons", "bestRoad", "()I"⟩ prog_1_method_46_code 5 (Option.some FieldType.int) ∈ lw_big := x_t4 (List.mem_of_getElem? (i := 44) rfl) rfl
theorem w_4_45 : Cond.methodLink "TruckPlatoonsLaw" 257 ⟨"TruckPlatoons", "outputByte", "(I)I"⟩ ∈ lw_big := x_t4 (List.mem_of_getElem? (i := 45) rfl) rfl
theorem w_4_46 : Cond.instanceMethod ⟨"TruckPlatoons", "outputByte", "(I)I"⟩ ∈ lw_big := x_t4 (List.mem_of_getElem? (i := 46) rfl) rfl
theorem w_4_47 : Cond.selects "TruckPlatoons" ⟨"TruckPlatoons", "outputByte", "(I)I"⟩ ⟨"TruckPlatoons", "outputByte", "(I)I"⟩ ∈ lw_big := x_t4 (List.mem_of_getElem? (i := 47) rfl) rfl
theorem w_4_48 : Cond.code ⟨"TruckPlatoons", "outputByte", "(I)I"⟩ prog_1_method_55_code 2 (Option.some FieldType.int) ∈ lw_big := x_t4 (List.mem_of_getElem? (i := 48) rfl) rfl
theorem w_4_49 : Cond.methodLink "TruckPlatoonsLaw" 261 ⟨"TruckPlatoons", "play", "()I"⟩ ∈ lw_big := x_t4 (List.mem_of_getElem? (i := 49) rfl) rfl
theorem w_4_50 : Cond.instanceMethod ⟨"TruckPlatoons", "play", "()I"⟩ ∈ lw_big := x_t4 (List.mem_of_getElem? (i := 50) rfl) rfl
theorem w_4_51 : Cond.selects "TruckPlatoons" ⟨"TruckPlatoons", "play", "()I"⟩ ⟨"TruckPlatoons", "play", "()I"⟩ ∈ lw_big := x_t4 (List.mem_of_getElem? (i := 51) rfl) rfl
theorem w_4_52 : Cond.code ⟨"TruckPlatoons", "play", "()I"⟩ prog_1_method_56_code 3 (Option.some FieldType.int) ∈ lw_big := x_t4 (List.mem_of_getElem? (i := 52) rfl) rfl
theorem w_4_53 : Cond.methodLink "TruckPlatoons" 431 ⟨"TruckPlatoons$Script", "read", "(LTruckPlatoons$Text;)Z"⟩ ∈ lw_big := x_t4 (List.mem_of_getElem? (i := 53) rfl) rfl
theorem w_4_54 : Cond.instanceMethod ⟨"TruckPlatoons$Script", "read", "(LTruckPlatoons$Text;)Z"⟩ ∈ lw_big := x_t4 (List.mem_of_getElem? (i := 54) rfl) rfl
theorem w_4_55 : Cond.selects "TruckPlatoons$Script" ⟨"TruckPlatoons$Script", "read", "(LTruckPlatoons$Text;)Z"⟩ ⟨"TruckPlatoons$Script", "read", "(LTruckPlatoons$Text;)Z"⟩ ∈ lw_big := x_t4 (List.mem_of_getElem? (i := 55) rfl) rfl
theorem w_4_56 : Cond.code ⟨"TruckPlatoons$Script", "read", "(LTruckPlatoons$Text;)Z"⟩ prog_10_method_4_code 4 (Option.some FieldType.boolean) ∈ lw_big := x_t4 (List.mem_of_getElem? (i := 56) rfl) rfl
theorem w_4_57 : Cond.methodLink "TruckPlatoons$Script" 22 ⟨"TruckPlatoons$Text", "next", "()V"⟩ ∈ lw_big := x_t4 (List.mem_of_getElem? (i := 57) rfl) rfl
theorem w_4_58 : Cond.methodLink "TruckPlatoons$Script" 30 ⟨"TruckPlatoons$Script", "commandWord", "(LTruckPlatoons$Text;)I"⟩ ∈ lw_big := x_t4 (List.mem_of_getElem? (i := 58) rfl) rfl
theorem w_4_59 : Cond.static ⟨"TruckPlatoons$Script", "commandWord", "(LTruckPlatoons$Text;)I"⟩ ∈ lw_big := x_t4 (List.mem_of_getElem? (i := 59) rfl) rfl
theorem w_4_60 : Cond.code ⟨"TruckPlatoons$Script", "commandWord", "(LTruckPlatoons$Text;)I"⟩ prog_10_method_5_code 1 (Option.some FieldType.int) ∈ lw_big := x_t4 (List.mem_of_getElem? (i := 60) rfl) rfl
theorem w_4_62 : Cond.methodLink "TruckPlatoons$Script" 48 ⟨"TruckPlatoons$Text", "isWord", "(Ljava/lang/String;)Z"⟩ ∈ lw_big := x_t4 (List.mem_of_getElem? (i := 62) rfl) rfl
theorem w_4_69 : Cond.methodLink "TruckPlatoons$Script" 34 ⟨"TruckPlatoons$Text", "fail", "(I)Z"⟩ ∈ lw_big := x_t4 (List.mem_of_getElem? (i := 69) rfl) rfl
theorem w_4_70 : Cond.methodLink "TruckPlatoons$Script" 38 ⟨"TruckPlatoons$Script", "readArguments", "(LTruckPlatoons$Text;I)Z"⟩ ∈ lw_big := x_t4 (List.mem_of_getElem? (i := 70) rfl) rfl
theorem w_4_72 : Cond.instanceMethod ⟨"TruckPlatoons$Script", "readArguments", "(LTruckPlatoons$Text;I)Z"⟩ ∈ lw_big := x_t4 (List.mem_of_getElem? (i := 72) rfl) rfl
theorem w_4_73 : Cond.code ⟨"TruckPlatoons$Script", "readArguments", "(LTruckPlatoons$Text;I)Z"⟩ prog_10_method_6_code 6 (Option.some FieldType.boolean) ∈ lw_big := x_t4 (List.mem_of_getElem? (i := 73) rfl) rfl
theorem w_4_74 : Cond.methodLink "TruckPlatoons$Script" 64 ⟨"TruckPlatoons$Script", "argumentsOf", "(I)I"⟩ ∈ lw_big := x_t4 (List.mem_of_getElem? (i := 74) rfl) rfl
theorem w_4_75 : Cond.static ⟨"TruckPlatoons$Script", "argumentsOf", "(I)I"⟩ ∈ lw_big := x_t4 (List.mem_of_getElem? (i := 75) rfl) rfl
theorem w_4_76 : Cond.code ⟨"TruckPlatoons$Script", "argumentsOf", "(I)I"⟩ prog_10_method_7_code 1 (Option.some FieldType.int) ∈ lw_big := x_t4 (List.mem_of_getElem? (i := 76) rfl) rfl
theorem w_4_77 : Cond.methodLink "TruckPlatoons$Script" 68 ⟨"TruckPlatoons$Script", "mostOf", "(II)I"⟩ ∈ lw_big := x_t4 (List.mem_of_getElem? (i := 77) rfl) rfl
theorem w_4_78 : Cond.static ⟨"TruckPlatoons$Script", "mostOf", "(II)I"⟩ ∈ lw_big := x_t4 (List.mem_of_getElem? (i := 78) rfl) rfl
theorem w_4_79 : Cond.code ⟨"TruckPlatoons$Script", "mostOf", "(II)I"⟩ prog_10_method_8_code 2 (Option.some FieldType.int) ∈ lw_big := x_t4 (List.mem_of_getElem? (i := 79) rfl) rfl
theorem w_4_80 : Cond.methodLink "TruckPlatoons$Script" 72 ⟨"TruckPlatoons$Text", "readNumber", "(II)Z"⟩ ∈ lw_big := x_t4 (List.mem_of_getElem? (i := 80) rfl) rfl
theorem w_4_81 : Cond.methodLink "TruckPlatoons$Script" 42 ⟨"TruckPlatoons$Text", "readSemicolon", "()Z"⟩ ∈ lw_big := x_t4 (List.mem_of_getElem? (i := 81) rfl) rfl
theorem w_4_82 : Cond.methodLink "TruckPlatoons" 435 ⟨"TruckPlatoons", "perform", "(I)Z"⟩ ∈ lw_big := x_t4 (List.mem_of_getElem? (i := 82) rfl) rfl
theorem w_4_84 : Cond.instanceMethod ⟨"TruckPlatoons", "perform", "(I)Z"⟩ ∈ lw_big := x_t4 (List.mem_of_getElem? (i := 84) rfl) rfl
theorem w_4_85 : Cond.code ⟨"TruckPlatoons", "perform", "(I)Z"⟩ prog_1_method_57_code 6 (Option.some FieldType.boolean) ∈ lw_big := x_t4 (List.mem_of_getElem? (i := 85) rfl) rfl
theorem w_4_86 : Cond.methodLink "TruckPlatoons" 438 ⟨"TruckPlatoons$Script", "word", "(I)I"⟩ ∈ lw_big := x_t4 (List.mem_of_getElem? (i := 86) rfl) rfl
theorem w_4_87 : Cond.instanceMethod ⟨"TruckPlatoons$Script", "word", "(I)I"⟩ ∈ lw_big := x_t4 (List.mem_of_getElem? (i := 87) rfl) rfl
theorem w_4_88 : Cond.selects "TruckPlatoons$Script" ⟨"TruckPlatoons$Script", "word", "(I)I"⟩ ⟨"TruckPlatoons$Script", "word", "(I)I"⟩ ∈ lw_big := x_t4 (List.mem_of_getElem? (i := 88) rfl) rfl
theorem w_4_89 : Cond.code ⟨"TruckPlatoons$Script", "word", "(I)I"⟩ prog_10_method_2_code 2 (Option.some FieldType.int) ∈ lw_big := x_t4 (List.mem_of_getElem? (i := 89) rfl) rfl
theorem w_4_90 : Cond.methodLink "TruckPlatoons" 441 ⟨"TruckPlatoons$Script", "argument", "(II)I"⟩ ∈ lw_big := x_t4 (List.mem_of_getElem? (i := 90) rfl) rfl
theorem w_4_91 : Cond.instanceMethod ⟨"TruckPlatoons$Script", "argument", "(II)I"⟩ ∈ lw_big := x_t4 (List.mem_of_getElem? (i := 91) rfl) rfl
theorem w_4_92 : Cond.selects "TruckPlatoons$Script" ⟨"TruckPlatoons$Script", "argument", "(II)I"⟩ ⟨"TruckPlatoons$Script", "argument", "(II)I"⟩ ∈ lw_big := x_t4 (List.mem_of_getElem? (i := 92) rfl) rfl
theorem w_4_93 : Cond.code ⟨"TruckPlatoons$Script", "argument", "(II)I"⟩ prog_10_method_3_code 3 (Option.some FieldType.int) ∈ lw_big := x_t4 (List.mem_of_getElem? (i := 93) rfl) rfl
theorem w_4_94 : Cond.methodLink "TruckPlatoons" 444 ⟨"TruckPlatoons$Fleet", "hasTruck", "(I)Z"⟩ ∈ lw_big := x_t4 (List.mem_of_getElem? (i := 94) rfl) rfl
theorem w_4_95 : Cond.instanceMethod ⟨"TruckPlatoons$Fleet", "hasTruck", "(I)Z"⟩ ∈ lw_big := x_t4 (List.mem_of_getElem? (i := 95) rfl) rfl
theorem w_4_96 : Cond.selects "TruckPlatoons$Fleet" ⟨"TruckPlatoons$Fleet", "hasTruck", "(I)Z"⟩ ⟨"TruckPlatoons$Fleet", "hasTruck", "(I)Z"⟩ ∈ lw_big := x_t4 (List.mem_of_getElem? (i := 96) rfl) rfl
theorem w_4_97 : Cond.code ⟨"TruckPlatoons$Fleet", "hasTruck", "(I)Z"⟩ prog_3_method_4_code 2 (Option.some FieldType.boolean) ∈ lw_big := x_t4 (List.mem_of_getElem? (i := 97) rfl) rfl
theorem w_4_98 : Cond.methodLink "TruckPlatoons" 447 ⟨"TruckPlatoons", "performWait", "(III)Z"⟩ ∈ lw_big := x_t4 (List.mem_of_getElem? (i := 98) rfl) rfl
theorem w_4_100 : Cond.instanceMethod ⟨"TruckPlatoons", "performWait", "(III)Z"⟩ ∈ lw_big := x_t4 (List.mem_of_getElem? (i := 100) rfl) rfl
theorem w_4_101 : Cond.code ⟨"TruckPlatoons", "performWait", "(III)Z"⟩ prog_1_method_58_code 4 (Option.some FieldType.boolean) ∈ lw_big := x_t4 (List.mem_of_getElem? (i := 101) rfl) rfl
theorem w_4_102 : Cond.methodLink "TruckPlatoons" 454 ⟨"TruckPlatoons$Fleet", "hasPlace", "(II)Z"⟩ ∈ lw_big := x_t4 (List.mem_of_getElem? (i := 102) rfl) rfl
theorem w_4_103 : Cond.instanceMethod ⟨"TruckPlatoons$Fleet", "hasPlace", "(II)Z"⟩ ∈ lw_big := x_t4 (List.mem_of_getElem? (i := 103) rfl) rfl
theorem w_4_104 : Cond.selects "TruckPlatoons$Fleet" ⟨"TruckPlatoons$Fleet", "hasPlace", "(II)Z"⟩ ⟨"TruckPlatoons$Fleet", "hasPlace", "(II)Z"⟩ ∈ lw_big := x_t4 (List.mem_of_getElem? (i := 104) rfl) rfl
theorem w_4_105 : Cond.code ⟨"TruckPlatoons$Fleet", "hasPlace", "(II)Z"⟩ prog_3_method_5_code 3 (Option.some FieldType.boolean) ∈ lw_big := x_t4 (List.mem_of_getElem? (i := 105) rfl) rfl
theorem w_4_106 : Cond.methodLink "TruckPlatoons$Fleet" 52 ⟨"TruckPlatoons$Fleet", "hasTruck", "(I)Z"⟩ ∈ lw_big := x_t4 (List.mem_of_getElem? (i := 106) rfl) rfl
theorem w_4_107 : Cond.methodLink "TruckPlatoons" 243 ⟨"TruckPlatoons", "stopAt", "(II)I"⟩ ∈ lw_big := x_t4 (List.mem_of_getElem? (i := 107) rfl) rfl
theorem w_4_108 : Cond.methodLink "TruckPlatoons" 333 ⟨"TruckPlatoons", "changeWait", "(II)I"⟩ ∈ lw_big := x_t4 (List.mem_of_getElem? (i := 108) rfl) rfl
theorem w_4_110 : Cond.instanceMethod ⟨"TruckPlatoons", "changeWait", "(II)I"⟩ ∈ lw_big := x_t4 (List.mem_of_getElem? (i := 110) rfl) rfl
theorem w_4_111 : Cond.code ⟨"TruckPlatoons", "changeWait", "(II)I"⟩ prog_1_method_26_code 4 (Option.some FieldType.int) ∈ lw_big := x_t4 (List.mem_of_getElem? (i := 111) rfl) rfl
theorem w_4_112 : Cond.methodLink "TruckPlatoons" 451 ⟨"TruckPlatoons", "performSpeed", "(III)Z"⟩ ∈ lw_big := x_t4 (List.mem_of_getElem? (i := 112) rfl) rfl
theorem w_4_114 : Cond.instanceMethod ⟨"TruckPlatoons", "performSpeed", "(III)Z"⟩ ∈ lw_big := x_t4 (List.mem_of_getElem? (i := 114) rfl) rfl
theorem w_4_115 : Cond.code ⟨"TruckPlatoons", "performSpeed", "(III)Z"⟩ prog_1_method_59_code 4 (Option.some FieldType.boolean) ∈ lw_big := x_t4 (List.mem_of_getElem? (i := 115) rfl) rfl
theorem w_4_116 : Cond.methodLink "TruckPlatoons" 342 ⟨"TruckPlatoons", "changeSpeed", "(II)I"⟩ ∈ lw_big := x_t4 (List.mem_of_getElem? (i := 116) rfl) rfl
theorem w_4_118 : Cond.instanceMethod ⟨"TruckPlatoons", "changeSpeed", "(II)I"⟩ ∈ lw_big := x_t4 (List.mem_of_getElem? (i := 118) rfl) rfl
theorem w_4_119 : Cond.code ⟨"TruckPlatoons", "changeSpeed", "(II)I"⟩ prog_1_method_28_code 4 (Option.some FieldType.int) ∈ lw_big := x_t4 (List.mem_of_getElem? (i := 119) rfl) rfl
theorem w_4_120 : Cond.methodLink "TruckPlatoons" 345 ⟨"TruckPlatoons", "changeStart", "(II)I"⟩ ∈ lw_big := x_t4 (List.mem_of_getElem? (i := 120) rfl) rfl
theorem w_4_122 : Cond.instanceMethod ⟨"TruckPlatoons", "changeStart", "(II)I"⟩ ∈ lw_big := x_t4 (List.mem_of_getElem? (i := 122) rfl) rfl
theorem w_4_123 : Cond.code ⟨"TruckPlatoons", "changeStart", "(II)I"⟩ prog_1_method_30_code 4 (Option.some FieldType.int) ∈ lw_big := x_t4 (List.mem_of_getElem? (i := 123) rfl) rfl
theorem w_4_124 : Cond.methodLink "TruckPlatoons" 351 ⟨"TruckPlatoons", "mergeTwo", "(II)I"⟩ ∈ lw_big := x_t4 (List.mem_of_getElem? (i := 124) rfl) rfl
theorem w_4_126 : Cond.instanceMethod ⟨"TruckPlatoons", "mergeTwo", "(II)I"⟩ ∈ lw_big := x_t4 (List.mem_of_getElem? (i := 126) rfl) rfl
theorem w_4_127 : Cond.code ⟨"TruckPlatoons", "mergeTwo", "(II)I"⟩ prog_1_method_33_code 3 (Option.some FieldType.int) ∈ lw_big := x_t4 (List.mem_of_getElem? (i := 127) rfl) rfl
theorem w_4_128 : Cond.methodLink "TruckPlatoons" 371 ⟨"TruckPlatoons", "speedUp", "(I)I"⟩ ∈ lw_big := x_t4 (List.mem_of_getElem? (i := 128) rfl) rfl
theorem w_4_130 : Cond.instanceMethod ⟨"TruckPlatoons", "speedUp", "(I)I"⟩ ∈ lw_big := x_t4 (List.mem_of_getElem? (i := 130) rfl) rfl
theorem w_4_131 : Cond.code ⟨"TruckPlatoons", "speedUp", "(I)I"⟩ prog_1_method_40_code 5 (Option.some FieldType.int) ∈ lw_big := x_t4 (List.mem_of_getElem? (i := 131) rfl) rfl
theorem w_4_132 : Cond.methodLink "TruckPlatoons" 374 ⟨"TruckPlatoons$Plan", "setTimes", "(I)V"⟩ ∈ lw_big := x_t4 (List.mem_of_getElem? (i := 132) rfl) rfl
theorem w_4_133 : Cond.methodLink "TruckPlatoons" 377 ⟨"TruckPlatoons", "slowDown", "(I)I"⟩ ∈ lw_big := x_t4 (List.mem_of_getElem? (i := 133) rfl) rfl
theorem w_4_135 : Cond.instanceMethod ⟨"TruckPlatoons", "slowDown", "(I)I"⟩ ∈ lw_big := x_t4 (List.mem_of_getElem? (i := 135) rfl) rfl
theorem w_4_136 : Cond.code ⟨"TruckPlatoons", "slowDown", "(I)I"⟩ prog_1_method_42_code 5 (Option.some FieldType.int) ∈ lw_big := x_t4 (List.mem_of_getElem? (i := 136) rfl) rfl
theorem w_4_137 : Cond.methodLink "TruckPlatoons" 380 ⟨"TruckPlatoons$Plan", "leastTimelySpeed", "(II)I"⟩ ∈ lw_big := x_t4 (List.mem_of_getElem? (i := 137) rfl) rfl
theorem w_4_138 : Cond.instanceMethod ⟨"TruckPlatoons$Plan", "leastTimelySpeed", "(II)I"⟩ ∈ lw_big := x_t4 (List.mem_of_getElem? (i := 138) rfl) rfl
theorem w_4_139 : Cond.selects "TruckPlatoons$Plan" ⟨"TruckPlatoons$Plan", "leastTimelySpeed", "(II)I"⟩ ⟨"TruckPlatoons$Plan", "leastTimelySpeed", "(II)I"⟩ ∈ lw_big := x_t4 (List.mem_of_getElem? (i := 139) rfl) rfl
theorem w_4_140 : Cond.code ⟨"TruckPlatoons$Plan", "leastTimelySpeed", "(II)I"⟩ prog_8_method_24_code 6 (Option.some FieldType.int) ∈ lw_big := x_t4 (List.mem_of_getElem? (i := 140) rfl) rfl
theorem w_4_141 : Cond.methodLink "TruckPlatoonsLaw" 265 ⟨"TruckPlatoons", "undo", "()I"⟩ ∈ lw_big := x_t4 (List.mem_of_getElem? (i := 141) rfl) rfl
theorem w_4_142 : Cond.instanceMethod ⟨"TruckPlatoons", "undo", "()I"⟩ ∈ lw_big := x_t4 (List.mem_of_getElem? (i := 142) rfl) rfl
theorem w_4_143 : Cond.selects "TruckPlatoons" ⟨"TruckPlatoons", "undo", "()I"⟩ ⟨"TruckPlatoons", "undo", "()I"⟩ ∈ lw_big := x_t4 (List.mem_of_getElem? (i := 143) rfl) rfl
theorem w_4_144 : Cond.code ⟨"TruckPlatoons", "undo", "()I"⟩ prog_1_method_60_code 1 (Option.some FieldType.int) ∈ lw_big := x_t4 (List.mem_of_getElem? (i := 144) rfl) rfl
theorem w_4_145 : Cond.methodLink "TruckPlatoons" 457 ⟨"TruckPlatoons$History", "takeBack", "(LTruckPlatoons$Plan;)V"⟩ ∈ lw_big := x_t4 (List.mem_of_getElem? (i := 145) rfl) rfl
theorem w_4_146 : Cond.instanceMethod ⟨"TruckPlatoons$History", "takeBack", "(LTruckPlatoons$Plan;)V"⟩ ∈ lw_big := x_t4 (List.mem_of_getElem? (i := 146) rfl) rfl
theorem w_4_147 : Cond.selects "TruckPlatoons$History" ⟨"TruckPlatoons$History", "takeBack", "(LTruckPlatoons$Plan;)V"⟩ ⟨"TruckPlatoons$History", "takeBack", "(LTruckPlatoons$Plan;)V"⟩ ∈ lw_big := x_t4 (List.mem_of_getElem? (i := 147) rfl) rfl
theorem w_4_148 : Cond.code ⟨"TruckPlatoons$History", "takeBack", "(LTruckPlatoons$Plan;)V"⟩ prog_4_method_3_code 2 (Option.none : Option Jvm.ClassFile.FieldType) ∈ lw_big := x_t4 (List.mem_of_getElem? (i := 148) rfl) rfl
theorem w_4_149 : Cond.methodLink "TruckPlatoons$History" 40 ⟨"TruckPlatoons$Plan", "readChoices", "([I)V"⟩ ∈ lw_big := x_t4 (List.mem_of_getElem? (i := 149) rfl) rfl
theorem w_4_150 : Cond.instanceMethod ⟨"TruckPlatoons$Plan", "readChoices", "([I)V"⟩ ∈ lw_big := x_t4 (List.mem_of_getElem? (i := 150) rfl) rfl
theorem w_4_151 : Cond.selects "TruckPlatoons$Plan" ⟨"TruckPlatoons$Plan", "readChoices", "([I)V"⟩ ⟨"TruckPlatoons$Plan", "readChoices", "([I)V"⟩ ∈ lw_big := x_t4 (List.mem_of_getElem? (i := 151) rfl) rfl
theorem w_4_152 : Cond.code ⟨"TruckPlatoons$Plan", "readChoices", "([I)V"⟩ prog_8_method_5_code 2 (Option.none : Option Jvm.ClassFile.FieldType) ∈ lw_big := x_t4 (List.mem_of_getElem? (i := 152) rfl) rfl
theorem w_4_153 : Cond.methodLink "TruckPlatoonsLaw" 269 ⟨"TruckPlatoons", "digest", "()I"⟩ ∈ lw_big := x_t4 (List.mem_of_getElem? (i := 153) rfl) rfl
theorem w_4_154 : Cond.instanceMethod ⟨"TruckPlatoons", "digest", "()I"⟩ ∈ lw_big := x_t4 (List.mem_of_getElem? (i := 154) rfl) rfl
theorem w_4_155 : Cond.selects "TruckPlatoons" ⟨"TruckPlatoons", "digest", "()I"⟩ ⟨"TruckPlatoons", "digest", "()I"⟩ ∈ lw_big := x_t4 (List.mem_of_getElem? (i := 155) rfl) rfl
theorem w_4_156 : Cond.code ⟨"TruckPlatoons", "digest", "()I"⟩ prog_1_method_61_code 4 (Option.some FieldType.int) ∈ lw_big := x_t4 (List.mem_of_getElem? (i := 156) rfl) rfl
theorem w_4_157 : Cond.methodLink "TruckPlatoons" 270 ⟨"TruckPlatoons$Plan", "fuel", "(I)I"⟩ ∈ lw_big := x_t4 (List.mem_of_getElem? (i := 157) rfl) rfl
theorem w_4_158 : Cond.instanceMethod ⟨"TruckPlatoons$Plan", "fuel", "(I)I"⟩ ∈ lw_big := x_t4 (List.mem_of_getElem? (i := 158) rfl) rfl
theorem w_4_159 : Cond.selects "TruckPlatoons$Plan" ⟨"TruckPlatoons$Plan", "fuel", "(I)I"⟩ ⟨"TruckPlatoons$Plan", "fuel", "(I)I"⟩ ∈ lw_big := x_t4 (List.mem_of_getElem? (i := 159) rfl) rfl
theorem w_4_160 : Cond.code ⟨"TruckPlatoons$Plan", "fuel", "(I)I"⟩ prog_8_method_26_code 2 (Option.some FieldType.int) ∈ lw_big := x_t4 (List.mem_of_getElem? (i := 160) rfl) rfl
theorem w_4_161 : Cond.methodLink "TruckPlatoonsLaw" 273 ⟨"TruckPlatoons", "saveSnapshot", "(I)Z"⟩ ∈ lw_big := x_t4 (List.mem_of_getElem? (i := 161) rfl) rfl
theorem w_4_162 : Cond.instanceMethod ⟨"TruckPlatoons", "saveSnapshot", "(I)Z"⟩ ∈ lw_big := x_t4 (List.mem_of_getElem? (i := 162) rfl) rfl
theorem w_4_163 : Cond.selects "TruckPlatoons" ⟨"TruckPlatoons", "saveSnapshot", "(I)Z"⟩ ⟨"TruckPlatoons", "saveSnapshot", "(I)Z"⟩ ∈ lw_big := x_t4 (List.mem_of_getElem? (i := 163) rfl) rfl
theorem w_4_164 : Cond.code ⟨"TruckPlatoons", "saveSnapshot", "(I)Z"⟩ prog_1_method_62_code 2 (Option.some FieldType.boolean) ∈ lw_big := x_t4 (List.mem_of_getElem? (i := 164) rfl) rfl
theorem w_4_165 : Cond.methodLink "TruckPlatoons" 460 ⟨"TruckPlatoons$History", "saveIn", "(ILTruckPlatoons$Plan;)V"⟩ ∈ lw_big := x_t4 (List.mem_of_getElem? (i := 165) rfl) rfl
theorem w_4_166 : Cond.instanceMethod ⟨"TruckPlatoons$History", "saveIn", "(ILTruckPlatoons$Plan;)V"⟩ ∈ lw_big := x_t4 (List.mem_of_getElem? (i := 166) rfl) rfl
theorem w_4_167 : Cond.selects "TruckPlatoons$History" ⟨"TruckPlatoons$History", "saveIn", "(ILTruckPlatoons$Plan;)V"⟩ ⟨"TruckPlatoons$History", "saveIn", "(ILTruckPlatoons$Plan;)V"⟩ ∈ lw_big := x_t4 (List.mem_of_getElem? (i := 167) rfl) rfl
theorem w_4_168 : Cond.code ⟨"TruckPlatoons$History", "saveIn", "(ILTruckPlatoons$Plan;)V"⟩ prog_4_method_5_code 3 (Option.none : Option Jvm.ClassFile.FieldType) ∈ lw_big := x_t4 (List.mem_of_getElem? (i := 168) rfl) rfl
theorem w_4_169 : Cond.methodLink "TruckPlatoonsLaw" 278 ⟨"TruckPlatoons", "restoreSnapshot", "(I)Z"⟩ ∈ lw_big := x_t4 (List.mem_of_getElem? (i := 169) rfl) rfl
theorem w_4_170 : Cond.instanceMethod ⟨"TruckPlatoons", "restoreSnapshot", "(I)Z"⟩ ∈ lw_big := x_t4 (List.mem_of_getElem? (i := 170) rfl) rfl
theorem w_4_171 : Cond.selects "TruckPlatoons" ⟨"TruckPlatoons", "restoreSnapshot", "(I)Z"⟩ ⟨"TruckPlatoons", "restoreSnapshot", "(I)Z"⟩ ∈ lw_big := x_t4 (List.mem_of_getElem? (i := 171) rfl) rfl
theorem w_4_172 : Cond.code ⟨"TruckPlatoons", "restoreSnapshot", "(I)Z"⟩ prog_1_method_63_code 2 (Option.some FieldType.boolean) ∈ lw_big := x_t4 (List.mem_of_getElem? (i := 172) rfl) rfl
theorem w_4_173 : Cond.methodLink "TruckPlatoons" 467 ⟨"TruckPlatoons$History", "restoreFrom", "(ILTruckPlatoons$Plan;)V"⟩ ∈ lw_big := x_t4 (List.mem_of_getElem? (i := 173) rfl) rfl
theorem w_4_174 : Cond.instanceMethod ⟨"TruckPlatoons$History", "restoreFrom", "(ILTruckPlatoons$Plan;)V"⟩ ∈ lw_big := x_t4 (List.mem_of_getElem? (i := 174) rfl) rfl
theorem w_4_175 : Cond.selects "TruckPlatoons$History" ⟨"TruckPlatoons$History", "restoreFrom", "(ILTruckPlatoons$Plan;)V"⟩ ⟨"TruckPlatoons$History", "restoreFrom", "(ILTruckPlatoons$Plan;)V"⟩ ∈ lw_big := x_t4 (List.mem_of_getElem? (i := 175) rfl) rfl
theorem w_4_176 : Cond.code ⟨"TruckPlatoons$History", "restoreFrom", "(ILTruckPlatoons$Plan;)V"⟩ prog_4_method_6_code 3 (Option.none : Option Jvm.ClassFile.FieldType) ∈ lw_big := x_t4 (List.mem_of_getElem? (i := 176) rfl) rfl
theorem w_4_177 : Cond.methodLink "TruckPlatoonsLaw" 141 ⟨"TruckPlatoonsLaw", "road", "(LTruckPlatoons;II[J)I"⟩ ∈ lw_big := x_t4 (List.mem_of_getElem? (i := 177) rfl) rfl
theorem w_4_178 : Cond.static ⟨"TruckPlatoonsLaw", "road", "(LTruckPlatoons;II[J)I"⟩ ∈ lw_big := x_t4 (List.mem_of_getElem? (i := 178) rfl) rfl
theorem w_4_180 : Cond.classLink "TruckPlatoonsLaw" 13 "java/lang/IndexOutOfBoundsException" ∈ lw_big := x_t4 (List.mem_of_getElem? (i := 180) rfl) rfl
theorem w_4_181 : Cond.instantiable "java/lang/ArrayIndexOutOfBoundsException" 6 ∈ lw_big := x_t4 (List.mem_of_getElem? (i := 181) rfl) rfl
theorem w_4_182 : Cond.instanceMethod ⟨"java/lang/ArrayIndexOutOfBoundsException", "<init>", "(Ljava/lang/String;)V"⟩ ∈ lw_big := x_t4 (List.mem_of_getElem? (i := 182) rfl) rfl
theorem w_4_183 : Cond.code ⟨"java/lang/ArrayIndexOutOfBoundsException", "<init>", "(Ljava/lang/String;)V"⟩ prog_15_method_2_code 2 (Option.none : Option Jvm.ClassFile.FieldType) ∈ lw_big := x_t4 (List.mem_of_getElem? (i := 183) rfl) rfl
theorem w_4_184 : Cond.methodLink "java/lang/ArrayIndexOutOfBoundsException" 7 ⟨"java/lang/IndexOutOfBoundsException", "<init>", "(Ljava/lang/String;)V"⟩ ∈ lw_big := x_t4 (List.mem_of_getElem? (i := 184) rfl) rfl
theorem w_4_185 : Cond.instanceMethod ⟨"java/lang/IndexOutOfBoundsException", "<init>", "(Ljava/lang/String;)V"⟩ ∈ lw_big := x_t4 (List.mem_of_getElem? (i := 185) rfl) rfl
theorem w_4_186 : Cond.code ⟨"java/lang/IndexOutOfBoundsException", "<init>", "(Ljava/lang/String;)V"⟩ prog_20_method_2_code 2 (Option.none : Option Jvm.ClassFile.FieldType) ∈ lw_big := x_t4 (List.mem_of_getElem? (i := 186) rfl) rfl
theorem w_4_187 : Cond.methodLink "java/lang/IndexOutOfBoundsException" 7 ⟨"java/lang/RuntimeException", "<init>", "(Ljava/lang/String;)V"⟩ ∈ lw_big := x_t4 (List.mem_of_getElem? (i := 187) rfl) rfl
theorem w_4_188 : Cond.instanceMethod ⟨"java/lang/RuntimeException", "<init>", "(Ljava/lang/String;)V"⟩ ∈ lw_big := x_t4 (List.mem_of_getElem? (i := 188) rfl) rfl
theorem w_4_189 : Cond.code ⟨"java/lang/RuntimeException", "<init>", "(Ljava/lang/String;)V"⟩ prog_23_method_2_code 2 (Option.none : Option Jvm.ClassFile.FieldType) ∈ lw_big := x_t4 (List.mem_of_getElem? (i := 189) rfl) rfl
theorem w_4_190 : Cond.methodLink "java/lang/RuntimeException" 7 ⟨"java/lang/Exception", "<init>", "(Ljava/lang/String;)V"⟩ ∈ lw_big := x_t4 (List.mem_of_getElem? (i := 190) rfl) rfl
theorem w_4_191 : Cond.instanceMethod ⟨"java/lang/Exception", "<init>", "(Ljava/lang/String;)V"⟩ ∈ lw_big := x_t4 (List.mem_of_getElem? (i := 191) rfl) rfl
theorem w_4_192 : Cond.code ⟨"java/lang/Exception", "<init>", "(Ljava/lang/String;)V"⟩ prog_16_method_2_code 2 (Option.none : Option Jvm.ClassFile.FieldType) ∈ lw_big := x_t4 (List.mem_of_getElem? (i := 192) rfl) rfl
theorem w_4_193 : Cond.methodLink "java/lang/Exception" 7 ⟨"java/lang/Throwable", "<init>", "(Ljava/lang/String;)V"⟩ ∈ lw_big := x_t4 (List.mem_of_getElem? (i := 193) rfl) rfl
theorem w_4_194 : Cond.instanceMethod ⟨"java/lang/Throwable", "<init>", "(Ljava/lang/String;)V"⟩ ∈ lw_big := x_t4 (List.mem_of_getElem? (i := 194) rfl) rfl
theorem w_4_195 : Cond.code ⟨"java/lang/Throwable", "<init>", "(Ljava/lang/String;)V"⟩ prog_28_method_2_code 2 (Option.none : Option Jvm.ClassFile.FieldType) ∈ lw_big := x_t4 (List.mem_of_getElem? (i := 195) rfl) rfl
theorem w_4_196 : Cond.methodLink "java/lang/Throwable" 1 ⟨"java/lang/Object", "<init>", "()V"⟩ ∈ lw_big := x_t4 (List.mem_of_getElem? (i := 196) rfl) rfl
theorem w_4_197 : Cond.fieldLink "java/lang/Throwable" 13 "java/lang/Throwable" "UNASSIGNED_STACK" "[Ljava/lang/StackTraceElement;" ∈ lw_big := x_t4 (List.mem_of_getElem? (i := 197) rfl) rfl
theorem w_4_199 : Cond.fieldLink "java/lang/Throwable" 20 "java/lang/Throwable" "SUPPRESSED_SENTINEL" "Ljava/util/List;" ∈ lw_big := x_t4 (List.mem_of_getElem? (i := 199) rfl) rfl
theorem w_4_201 : Cond.methodLink "java/lang/Throwable" 27 ⟨"java/lang/Throwable", "fillInStackTrace", "()Ljava/lang/Throwable;"⟩ ∈ lw_big := x_t4 (List.mem_of_getElem? (i := 201) rfl) rfl
theorem w_4_202 : Cond.instanceMethod ⟨"java/lang/Throwable", "fillInStackTrace", "()Ljava/lang/Throwable;"⟩ ∈ lw_big := x_t4 (List.mem_of_getElem? (i := 202) rfl) rfl
theorem w_4_204 : Cond.selects "java/lang/ArithmeticException" ⟨"java/lang/Throwable", "fillInStackTrace", "()Ljava/lang/Throwable;"⟩ ⟨"java/lang/Throwable", "fillInStackTrace", "()Ljava/lang/Throwable;"⟩ ∈ lw_big := x_t4 (List.mem_of_getElem? (i := 204) rfl) rfl
theorem w_4_205 : Cond.selects "java/lang/ArrayIndexOutOfBoundsException" ⟨"java/lang/Throwable", "fillInStackTrace", "()Ljava/lang/Throwable;"⟩ ⟨"java/lang/Throwable", "fillInStackTrace", "()Ljava/lang/Throwable;"⟩ ∈ lw_big := x_t4 (List.mem_of_getElem? (i := 205) rfl) rfl
theorem w_4_206 : Cond.selects "java/lang/IllegalArgumentException" ⟨"java/lang/Throwable", "fillInStackTrace", "()Ljava/lang/Throwable;"⟩ ⟨"java/lang/Throwable", "fillInStackTrace", "()Ljava/lang/Throwable;"⟩ ∈ lw_big := x_t4 (List.mem_of_getElem? (i := 206) rfl) rfl
theorem w_4_207 : Cond.selects "java/lang/IllegalStateException" ⟨"java/lang/Throwable", "fillInStackTrace", "()Ljava/lang/Throwable;"⟩ ⟨"java/lang/Throwable", "fillInStackTrace", "()Ljava/lang/Throwable;"⟩ ∈ lw_big := x_t4 (List.mem_of_getElem? (i := 207) rfl) rfl
theorem w_4_208 : Cond.selects "java/lang/IndexOutOfBoundsException" ⟨"java/lang/Throwable", "fillInStackTrace", "()Ljava/lang/Throwable;"⟩ ⟨"java/lang/Throwable", "fillInStackTrace", "()Ljava/lang/Throwable;"⟩ ∈ lw_big := x_t4 (List.mem_of_getElem? (i := 208) rfl) rfl
theorem w_4_210 : Cond.methodLink "java/lang/Throwable" 202 ⟨"java/lang/Throwable", "fillInStackTrace", "(I)Ljava/lang/Throwable;"⟩ ∈ lw_big := x_t4 (List.mem_of_getElem? (i := 210) rfl) rfl
theorem w_4_212 : Cond.instanceMethod ⟨"java/lang/Throwable", "fillInStackTrace", "(I)Ljava/lang/Throwable;"⟩ ∈ lw_big := x_t4 (List.mem_of_getElem? (i := 212) rfl) rfl
theorem w_4_213 : Cond.instantiable "java/lang/Throwable" 6 ∈ lw_big := x_t4 (List.mem_of_getElem? (i := 213) rfl) rfl
theorem w_4_214 : Cond.native ⟨"java/lang/Throwable", "fillInStackTrace", "(I)Ljava/lang/Throwable;"⟩ ∈ lw_big := x_t4 (List.mem_of_getElem? (i := 214) rfl) rfl
theorem w_4_215 : Cond.fieldLink "java/lang/Throwable" 198 "java/lang/Throwable" "backtrace" "Ljava/lang/Object;" ∈ lw_big := x_t4 (List.mem_of_getElem? (i := 215) rfl) rfl
theorem w_4_216 : Cond.fieldLink "java/lang/Throwable" 31 "java/lang/Throwable" "detailMessage" "Ljava/lang/String;" ∈ lw_big := x_t4 (List.mem_of_getElem? (i := 216) rfl) rfl
theorem w_4_217 : Cond.fieldLink "java/lang/Throwable" 7 "java/lang/Throwable" "cause" "Ljava/lang/Throwable;" ∈ lw_big := x_t4 (List.mem_of_getElem? (i := 217) rfl) rfl
theorem w_4_218 : Cond.fieldLink "java/lang/Throwable" 17 "java/lang/Throwable" "stackTrace" "[Ljava/lang/StackTraceElement;" ∈ lw_big := x_t4 (List.mem_of_getElem? (i := 218) rfl) rfl
theorem w_4_219 : Cond.fieldLink "java/lang/Throwable" 24 "java/lang/Throwable" "suppressedExceptions" "Ljava/util/List;" ∈ lw_big := x_t4 (List.mem_of_getElem? (i := 219) rfl) rfl
theorem w_4_220 : Cond.lays "java/lang/ArrayIndexOutOfBoundsException" "java/lang/Throwable" "backtrace" "Ljava/lang/Object;" ∈ lw_big := x_t4 (List.mem_of_getElem? (i := 220) rfl) rfl
theorem w_4_222 : Cond.lays "java/lang/ArrayIndexOutOfBoundsException" "java/lang/Throwable" "detailMessage" "Ljava/lang/String;" ∈ lw_big := x_t4 (List.mem_of_getElem? (i := 222) rfl) rfl
theorem w_4_224 : Cond.lays "java/lang/ArrayIndexOutOfBoundsException" "java/lang/Throwable" "cause" "Ljava/lang/Throwable;" ∈ lw_big := x_t4 (List.mem_of_getElem? (i := 224) rfl) rfl
theorem w_4_226 : Cond.lays "java/lang/ArrayIndexOutOfBoundsException" "java/lang/Throwable" "stackTrace" "[Ljava/lang/StackTraceElement;" ∈ lw_big := x_t4 (List.mem_of_getElem? (i := 226) rfl) rfl
theorem w_4_228 : Cond.lays "java/lang/ArrayIndexOutOfBoundsException" "java/lang/Throwable" "depth" "I" ∈ lw_big := x_t4 (List.mem_of_getElem? (i := 228) rfl) rfl
theorem w_4_230 : Cond.lays "java/lang/ArrayIndexOutOfBoundsException" "java/lang/Throwable" "suppressedExceptions" "Ljava/util/List;" ∈ lw_big := x_t4 (List.mem_of_getElem? (i := 230) rfl) rfl
theorem w_5_2 : Cond.selects "java/lang/ArrayIndexOutOfBoundsException" ⟨"java/lang/Throwable", "fillInStackTrace", "(I)Ljava/lang/Throwable;"⟩ ⟨"java/lang/Throwable", "fillInStackTrace", "(I)Ljava/lang/Throwable;"⟩ ∈ lw_big := x_t5 (List.mem_of_getElem? (i := 2) rfl) rfl
theorem w_5_3 : Cond.lays "java/lang/Throwable" "java/lang/Throwable" "cause" "Ljava/lang/Throwable;" ∈ lw_big := x_t5 (List.mem_of_getElem? (i := 3) rfl) rfl
theorem w_5_4 : Cond.lays "java/lang/Throwable" "java/lang/Throwable" "stackTrace" "[Ljava/lang/StackTraceElement;" ∈ lw_big := x_t5 (List.mem_of_getElem? (i := 4) rfl) rfl
theorem w_5_5 : Cond.lays "java/lang/Throwable" "java/lang/Throwable" "suppressedExceptions" "Ljava/util/List;" ∈ lw_big := x_t5 (List.mem_of_getElem? (i := 5) rfl) rfl
theorem w_5_6 : Cond.lays "java/lang/Throwable" "java/lang/Throwable" "detailMessage" "Ljava/lang/String;" ∈ lw_big := x_t5 (List.mem_of_getElem? (i := 6) rfl) rfl
theorem w_5_7 : Cond.lays "java/lang/Throwable" "java/lang/Throwable" "backtrace" "Ljava/lang/Object;" ∈ lw_big := x_t5 (List.mem_of_getElem? (i := 7) rfl) rfl
theorem w_5_8 : Cond.fieldLink "java/lang/Throwable" 198 "java/lang/Throwable" "backtrace" "Ljava/lang/Object;" ∈ lw_big := x_t5 (List.mem_of_getElem? (i := 8) rfl) rfl
theorem w_5_10 : Cond.instanceMethod ⟨"java/lang/Throwable", "<init>", "()V"⟩ ∈ lw_big := x_t5 (List.mem_of_getElem? (i := 10) rfl) rfl
theorem w_5_11 : Cond.code ⟨"java/lang/Throwable", "<init>", "()V"⟩ prog_28_method_1_code 1 (Option.none : Option Jvm.ClassFile.FieldType) ∈ lw_big := x_t5 (List.mem_of_getElem? (i := 11) rfl) rfl
theorem w_5_12 : Cond.instantiable "java/lang/String" 4 ∈ lw_big := x_t5 (List.mem_of_getElem? (i := 12) rfl) rfl
theorem w_5_13 : Cond.laysFinal "java/lang/String" "java/lang/String" "value" "[B" ∈ lw_big := x_t5 (List.mem_of_getElem? (i := 13) rfl) rfl
theorem w_5_15 : Cond.laysFinal "java/lang/String" "java/lang/String" "coder" "B" ∈ lw_big := x_t5 (List.mem_of_getElem? (i := 15) rfl) rfl
theorem w_5_17 : Cond.methodLink "TruckPlatoonsLaw" 7 ⟨"TruckPlatoons", "road", "(II)I"⟩ ∈ lw_big := x_t5 (List.mem_of_getElem? (i := 17) rfl) rfl
theorem w_5_18 : Cond.instanceMethod ⟨"TruckPlatoons", "road", "(II)I"⟩ ∈ lw_big := x_t5 (List.mem_of_getElem? (i := 18) rfl) rfl
theorem w_5_19 : Cond.selects "TruckPlatoons" ⟨"TruckPlatoons", "road", "(II)I"⟩ ⟨"TruckPlatoons", "road", "(II)I"⟩ ∈ lw_big := x_t5 (List.mem_of_getElem? (i := 19) rfl) rfl
theorem w_5_20 : Cond.code ⟨"TruckPlatoons", "road", "(II)I"⟩ prog_1_method_11_code 3 (Option.some FieldType.int) ∈ lw_big := x_t5 (List.mem_of_getElem? (i := 20) rfl) rfl
theorem w_5_21 : Cond.methodLink "TruckPlatoons" 189 ⟨"TruckPlatoons", "checkRoad", "(I)V"⟩ ∈ lw_big := x_t5 (List.mem_of_getElem? (i := 21) rfl) rfl
theorem w_5_23 : Cond.instanceMethod ⟨"TruckPlatoons", "checkRoad", "(I)V"⟩ ∈ lw_big := x_t5 (List.mem_of_getElem? (i := 23) rfl) rfl
theorem w_5_24 : Cond.code ⟨"TruckPlatoons", "checkRoad", "(I)V"⟩ prog_1_method_65_code 2 (Option.none : Option Jvm.ClassFile.FieldType) ∈ lw_big := x_t5 (List.mem_of_getElem? (i := 24) rfl) rfl
theorem w_5_25 : Cond.methodLink "TruckPlatoons" 470 ⟨"TruckPlatoons$Fleet", "hasRoad", "(I)Z"⟩ ∈ lw_big := x_t5 (List.mem_of_getElem? (i := 25) rfl) rfl
theorem w_5_26 : Cond.instanceMethod ⟨"TruckPlatoons$Fleet", "hasRoad", "(I)Z"⟩ ∈ lw_big := x_t5 (List.mem_of_getElem? (i := 26) rfl) rfl
theorem w_5_27 : Cond.selects "TruckPlatoons$Fleet" ⟨"TruckPlatoons$Fleet", "hasRoad", "(I)Z"⟩ ⟨"TruckPlatoons$Fleet", "hasRoad", "(I)Z"⟩ ∈ lw_big := x_t5 (List.mem_of_getElem? (i := 27) rfl) rfl
theorem w_5_28 : Cond.code ⟨"TruckPlatoons$Fleet", "hasRoad", "(I)Z"⟩ prog_3_method_3_code 2 (Option.some FieldType.boolean) ∈ lw_big := x_t5 (List.mem_of_getElem? (i := 28) rfl) rfl
theorem w_5_29 : Cond.classLink "TruckPlatoons" 473 "java/lang/IndexOutOfBoundsException" ∈ lw_big := x_t5 (List.mem_of_getElem? (i := 29) rfl) rfl
theorem w_5_30 : Cond.instantiable "java/lang/IndexOutOfBoundsException" 6 ∈ lw_big := x_t5 (List.mem_of_getElem? (i := 30) rfl) rfl
theorem w_5_32 : Cond.selects "java/lang/IndexOutOfBoundsException" ⟨"java/lang/Throwable", "fillInStackTrace", "(I)Ljava/lang/Throwable;"⟩ ⟨"java/lang/Throwable", "fillInStackTrace", "(I)Ljava/lang/Throwable;"⟩ ∈ lw_big := x_t5 (List.mem_of_getElem? (i := 32) rfl) rfl
theorem w_5_33 : Cond.lays "java/lang/IndexOutOfBoundsException" "java/lang/Throwable" "cause" "Ljava/lang/Throwable;" ∈ lw_big := x_t5 (List.mem_of_getElem? (i := 33) rfl) rfl
theorem w_5_34 : Cond.lays "java/lang/IndexOutOfBoundsException" "java/lang/Throwable" "stackTrace" "[Ljava/lang/StackTraceElement;" ∈ lw_big := x_t5 (List.mem_of_getElem? (i := 34) rfl) rfl
theorem w_5_35 : Cond.lays "java/lang/IndexOutOfBoundsException" "java/lang/Throwable" "suppressedExceptions" "Ljava/util/List;" ∈ lw_big := x_t5 (List.mem_of_getElem? (i := 35) rfl) rfl
theorem w_5_36 : Cond.lays "java/lang/IndexOutOfBoundsException" "java/lang/Throwable" "detailMessage" "Ljava/lang/String;" ∈ lw_big := x_t5 (List.mem_of_getElem? (i := 36) rfl) rfl
theorem w_5_37 : Cond.lays "java/lang/IndexOutOfBoundsException" "java/lang/Throwable" "backtrace" "Ljava/lang/Object;" ∈ lw_big := x_t5 (List.mem_of_getElem? (i := 37) rfl) rfl
theorem w_5_39 : Cond.methodLink "TruckPlatoons" 477 ⟨"java/lang/IndexOutOfBoundsException", "<init>", "(Ljava/lang/String;)V"⟩ ∈ lw_big := x_t5 (List.mem_of_getElem? (i := 39) rfl) rfl
theorem w_5_40 : Cond.lays "java/lang/IndexOutOfBoundsException" "java/lang/Throwable" "depth" "I" ∈ lw_big := x_t5 (List.mem_of_getElem? (i := 40) rfl) rfl
theorem w_5_42 : Cond.methodLink "TruckPlatoons" 203 ⟨"TruckPlatoons$Plan", "platoonsOn", "(I)I"⟩ ∈ lw_big := x_t5 (List.mem_of_getElem? (i := 42) rfl) rfl
theorem w_5_43 : Cond.instanceMethod ⟨"TruckPlatoons$Plan", "platoonsOn", "(I)I"⟩ ∈ lw_big := x_t5 (List.mem_of_getElem? (i := 43) rfl) rfl
theorem w_5_44 : Cond.selects "TruckPlatoons$Plan" ⟨"TruckPlatoons$Plan", "platoonsOn", "(I)I"⟩ ⟨"TruckPlatoons$Plan", "platoonsOn", "(I)I"⟩ ∈ lw_big := x_t5 (List.mem_of_getElem? (i := 44) rfl) rfl
theorem w_5_45 : Cond.code ⟨"TruckPlatoons$Plan", "platoonsOn", "(I)I"⟩ prog_8_method_18_code 3 (Option.some FieldType.int) ∈ lw_big := x_t5 (List.mem_of_getElem? (i := 45) rfl) rfl
theorem w_5_46 : Cond.methodLink "TruckPlatoons" 206 ⟨"TruckPlatoons$Routes", "trucksOn", "(I)I"⟩ ∈ lw_big := x_t5 (List.mem_of_getElem? (i := 46) rfl) rfl
theorem w_5_47 : Cond.instanceMethod ⟨"TruckPlatoons$Routes", "trucksOn", "(I)I"⟩ ∈ lw_big := x_t5 (List.mem_of_getElem? (i := 47) rfl) rfl
theorem w_5_48 : Cond.selects "TruckPlatoons$Routes" ⟨"TruckPlatoons$Routes", "trucksOn", "(I)I"⟩ ⟨"TruckPlatoons$Routes", "trucksOn", "(I)I"⟩ ∈ lw_big := x_t5 (List.mem_of_getElem? (i := 48) rfl) rfl
theorem w_5_49 : Cond.code ⟨"TruckPlatoons$Routes", "trucksOn", "(I)I"⟩ prog_9_method_9_code 4 (Option.some FieldType.int) ∈ lw_big := x_t5 (List.mem_of_getElem? (i := 49) rfl) rfl
theorem w_5_50 : Cond.methodLink "TruckPlatoonsLaw" 150 ⟨"TruckPlatoonsLaw", "truck", "(LTruckPlatoons;II[J)I"⟩ ∈ lw_big := x_t5 (List.mem_of_getElem? (i := 50) rfl) rfl
theorem w_5_51 : Cond.static ⟨"TruckPlatoonsLaw", "truck", "(LTruckPlatoons;II[J)I"⟩ ∈ lw_big := x_t5 (List.mem_of_getElem? (i := 51) rfl) rfl
theorem w_5_53 : Cond.methodLink "TruckPlatoonsLaw" 15 ⟨"TruckPlatoons", "truck", "(II)I"⟩ ∈ lw_big := x_t5 (List.mem_of_getElem? (i := 53) rfl) rfl
theorem w_5_54 : Cond.instanceMethod ⟨"TruckPlatoons", "truck", "(II)I"⟩ ∈ lw_big := x_t5 (List.mem_of_getElem? (i := 54) rfl) rfl
theorem w_5_55 : Cond.selects "TruckPlatoons" ⟨"TruckPlatoons", "truck", "(II)I"⟩ ⟨"TruckPlatoons", "truck", "(II)I"⟩ ∈ lw_big := x_t5 (List.mem_of_getElem? (i := 55) rfl) rfl
theorem w_5_56 : Cond.code ⟨"TruckPlatoons", "truck", "(II)I"⟩ prog_1_method_12_code 3 (Option.some FieldType.int) ∈ lw_big := x_t5 (List.mem_of_getElem? (i := 56) rfl) rfl
theorem w_5_57 : Cond.methodLink "TruckPlatoons" 209 ⟨"TruckPlatoons", "checkTruck", "(I)V"⟩ ∈ lw_big := x_t5 (List.mem_of_getElem? (i := 57) rfl) rfl
theorem w_5_59 : Cond.instanceMethod ⟨"TruckPlatoons", "checkTruck", "(I)V"⟩ ∈ lw_big := x_t5 (List.mem_of_getElem? (i := 59) rfl) rfl
theorem w_5_60 : Cond.code ⟨"TruckPlatoons", "checkTruck", "(I)V"⟩ prog_1_method_66_code 2 (Option.none : Option Jvm.ClassFile.FieldType) ∈ lw_big := x_t5 (List.mem_of_getElem? (i := 60) rfl) rfl
theorem w_5_62 : Cond.methodLink "TruckPlatoons" 224 ⟨"TruckPlatoons$Plan", "arrival", "(I)I"⟩ ∈ lw_big := x_t5 (List.mem_of_getElem? (i := 62) rfl) rfl
theorem w_5_63 : Cond.methodLink "TruckPlatoons" 227 ⟨"TruckPlatoons$Fleet", "kilometers", "(I)I"⟩ ∈ lw_big := x_t5 (List.mem_of_getElem? (i := 63) rfl) rfl
theorem w_5_64 : Cond.instanceMethod ⟨"TruckPlatoons$Fleet", "kilometers", "(I)I"⟩ ∈ lw_big := x_t5 (List.mem_of_getElem? (i := 64) rfl) rfl
theorem w_5_65 : Cond.selects "TruckPlatoons$Fleet" ⟨"TruckPlatoons$Fleet", "kilometers", "(I)I"⟩ ⟨"TruckPlatoons$Fleet", "kilometers", "(I)I"⟩ ∈ lw_big := x_t5 (List.mem_of_getElem? (i := 65) rfl) rfl
theorem w_5_66 : Cond.code ⟨"TruckPlatoons$Fleet", "kilometers", "(I)I"⟩ prog_3_method_7_code 4 (Option.some FieldType.int) ∈ lw_big := x_t5 (List.mem_of_getElem? (i := 66) rfl) rfl
theorem w_5_68 : Cond.methodLink "TruckPlatoons" 230 ⟨"TruckPlatoons$Plan", "fuelOf", "(I)I"⟩ ∈ lw_big := x_t5 (List.mem_of_getElem? (i := 68) rfl) rfl
theorem w_5_69 : Cond.instanceMethod ⟨"TruckPlatoons$Plan", "fuelOf", "(I)I"⟩ ∈ lw_big := x_t5 (List.mem_of_getElem? (i := 69) rfl) rfl
theorem w_5_70 : Cond.selects "TruckPlatoons$Plan" ⟨"TruckPlatoons$Plan", "fuelOf", "(I)I"⟩ ⟨"TruckPlatoons$Plan", "fuelOf", "(I)I"⟩ ∈ lw_big := x_t5 (List.mem_of_getElem? (i := 70) rfl) rfl
theorem w_5_71 : Cond.code ⟨"TruckPlatoons$Plan", "fuelOf", "(I)I"⟩ prog_8_method_28_code 4 (Option.some FieldType.int) ∈ lw_big := x_t5 (List.mem_of_getElem? (i := 71) rfl) rfl
theorem w_5_72 : Cond.methodLink "TruckPlatoons$Plan" 172 ⟨"TruckPlatoons$Plan", "fuel", "(I)I"⟩ ∈ lw_big := x_t5 (List.mem_of_getElem? (i := 72) rfl) rfl
theorem w_5_73 : Cond.methodLink "TruckPlatoons" 233 ⟨"TruckPlatoons$Plan", "savedBy", "(I)I"⟩ ∈ lw_big := x_t5 (List.mem_of_getElem? (i := 73) rfl) rfl
theorem w_5_74 : Cond.instanceMethod ⟨"TruckPlatoons$Plan", "savedBy", "(I)I"⟩ ∈ lw_big := x_t5 (List.mem_of_getElem? (i := 74) rfl) rfl
theorem w_5_75 : Cond.selects "TruckPlatoons$Plan" ⟨"TruckPlatoons$Plan", "savedBy", "(I)I"⟩ ⟨"TruckPlatoons$Plan", "savedBy", "(I)I"⟩ ∈ lw_big := x_t5 (List.mem_of_getElem? (i := 75) rfl) rfl
theorem w_5_76 : Cond.code ⟨"TruckPlatoons$Plan", "savedBy", "(I)I"⟩ prog_8_method_29_code 4 (Option.some FieldType.int) ∈ lw_big := x_t5 (List.mem_of_getElem? (i := 76) rfl) rfl
theorem w_5_77 : Cond.methodLink "TruckPlatoons" 236 ⟨"TruckPlatoons$Plan", "closedBy", "(I)I"⟩ ∈ lw_big := x_t5 (List.mem_of_getElem? (i := 77) rfl) rfl
theorem w_5_78 : Cond.instanceMethod ⟨"TruckPlatoons$Plan", "closedBy", "(I)I"⟩ ∈ lw_big := x_t5 (List.mem_of_getElem? (i := 78) rfl) rfl
theorem w_5_79 : Cond.selects "TruckPlatoons$Plan" ⟨"TruckPlatoons$Plan", "closedBy", "(I)I"⟩ ⟨"TruckPlatoons$Plan", "closedBy", "(I)I"⟩ ∈ lw_big := x_t5 (List.mem_of_getElem? (i := 79) rfl) rfl
theorem w_5_80 : Cond.code ⟨"TruckPlatoons$Plan", "closedBy", "(I)I"⟩ prog_8_method_30_code 4 (Option.some FieldType.int) ∈ lw_big := x_t5 (List.mem_of_getElem? (i := 80) rfl) rfl
theorem w_5_81 : Cond.methodLink "TruckPlatoonsLaw" 153 ⟨"TruckPlatoonsLaw", "place", "(LTruckPlatoons;III[J)I"⟩ ∈ lw_big := x_t5 (List.mem_of_getElem? (i := 81) rfl) rfl
theorem w_5_82 : Cond.static ⟨"TruckPlatoonsLaw", "place", "(LTruckPlatoons;III[J)I"⟩ ∈ lw_big := x_t5 (List.mem_of_getElem? (i := 82) rfl) rfl
theorem w_5_84 : Cond.methodLink "TruckPlatoonsLaw" 18 ⟨"TruckPlatoons", "place", "(III)I"⟩ ∈ lw_big := x_t5 (List.mem_of_getElem? (i := 84) rfl) rfl
theorem w_5_85 : Cond.instanceMethod ⟨"TruckPlatoons", "place", "(III)I"⟩ ∈ lw_big := x_t5 (List.mem_of_getElem? (i := 85) rfl) rfl
theorem w_5_86 : Cond.selects "TruckPlatoons" ⟨"TruckPlatoons", "place", "(III)I"⟩ ⟨"TruckPlatoons", "place", "(III)I"⟩ ∈ lw_big := x_t5 (List.mem_of_getElem? (i := 86) rfl) rfl
theorem w_5_87 : Cond.code ⟨"TruckPlatoons", "place", "(III)I"⟩ prog_1_method_13_code 5 (Option.some FieldType.int) ∈ lw_big := x_t5 (List.mem_of_getElem? (i := 87) rfl) rfl
theorem w_5_88 : Cond.methodLink "TruckPlatoons" 239 ⟨"TruckPlatoons", "checkPlace", "(II)V"⟩ ∈ lw_big := x_t5 (List.mem_of_getElem? (i := 88) rfl) rfl
theorem w_5_90 : Cond.instanceMethod ⟨"TruckPlatoons", "checkPlace", "(II)V"⟩ ∈ lw_big := x_t5 (List.mem_of_getElem? (i := 90) rfl) rfl
theorem w_5_91 : Cond.code ⟨"TruckPlatoons", "checkPlace", "(II)V"⟩ prog_1_method_67_code 3 (Option.none : Option Jvm.ClassFile.FieldType) ∈ lw_big := x_t5 (List.mem_of_getElem? (i := 91) rfl) rfl
theorem w_5_93 : Cond.methodLink "TruckPlatoons" 255 ⟨"TruckPlatoons$Plan", "ready", "(II)I"⟩ ∈ lw_big := x_t5 (List.mem_of_getElem? (i := 93) rfl) rfl
theorem w_5_94 : Cond.methodLink "TruckPlatoons" 264 ⟨"TruckPlatoons$Plan", "base", "(I)I"⟩ ∈ lw_big := x_t5 (List.mem_of_getElem? (i := 94) rfl) rfl
theorem w_5_95 : Cond.methodLink "TruckPlatoonsLaw" 157 ⟨"TruckPlatoonsLaw", "platoonOf", "(LTruckPlatoons;II[J)I"⟩ ∈ lw_big := x_t5 (List.mem_of_getElem? (i := 95) rfl) rfl
theorem w_5_96 : Cond.static ⟨"TruckPlatoonsLaw", "platoonOf", "(LTruckPlatoons;II[J)I"⟩ ∈ lw_big := x_t5 (List.mem_of_getElem? (i := 96) rfl) rfl
theorem w_5_98 : Cond.methodLink "TruckPlatoonsLaw" 22 ⟨"TruckPlatoons", "platoonOf", "(II)I"⟩ ∈ lw_big := x_t5 (List.mem_of_getElem? (i := 98) rfl) rfl
theorem w_5_99 : Cond.instanceMethod ⟨"TruckPlatoons", "platoonOf", "(II)I"⟩ ∈ lw_big := x_t5 (List.mem_of_getElem? (i := 99) rfl) rfl
theorem w_5_100 : Cond.selects "TruckPlatoons" ⟨"TruckPlatoons", "platoonOf", "(II)I"⟩ ⟨"TruckPlatoons", "platoonOf", "(II)I"⟩ ∈ lw_big := x_t5 (List.mem_of_getElem? (i := 100) rfl) rfl
theorem w_5_101 : Cond.code ⟨"TruckPlatoons", "platoonOf", "(II)I"⟩ prog_1_method_14_code 3 (Option.some FieldType.int) ∈ lw_big := x_t5 (List.mem_of_getElem? (i := 101) rfl) rfl
theorem w_5_102 : Cond.methodLink "TruckPlatoonsLaw" 160 ⟨"TruckPlatoonsLaw", "position", "(LTruckPlatoons;II[J)I"⟩ ∈ lw_big := x_t5 (List.mem_of_getElem? (i := 102) rfl) rfl
theorem w_5_103 : Cond.static ⟨"TruckPlatoonsLaw", "position", "(LTruckPlatoons;II[J)I"⟩ ∈ lw_big := x_t5 (List.mem_of_getElem? (i := 103) rfl) rfl
theorem w_5_105 : Cond.methodLink "TruckPlatoonsLaw" 25 ⟨"TruckPlatoons", "position", "(II)I"⟩ ∈ lw_big := x_t5 (List.mem_of_getElem? (i := 105) rfl) rfl
theorem w_5_106 : Cond.instanceMethod ⟨"TruckPlatoons", "position", "(II)I"⟩ ∈ lw_big := x_t5 (List.mem_of_getElem? (i := 106) rfl) rfl
theorem w_5_107 : Cond.selects "TruckPlatoons" ⟨"TruckPlatoons", "position", "(II)I"⟩ ⟨"TruckPlatoons", "position", "(II)I"⟩ ∈ lw_big := x_t5 (List.mem_of_getElem? (i := 107) rfl) rfl
theorem w_5_108 : Cond.code ⟨"TruckPlatoons", "position", "(II)I"⟩ prog_1_method_15_code 3 (Option.some FieldType.int) ∈ lw_big := x_t5 (List.mem_of_getElem? (i := 108) rfl) rfl
theorem w_5_109 : Cond.methodLink "TruckPlatoonsLaw" 163 ⟨"TruckPlatoonsLaw", "key", "(LTruckPlatoons;II[J)I"⟩ ∈ lw_big := x_t5 (List.mem_of_getElem? (i := 109) rfl) rfl
theorem w_5_110 : Cond.static ⟨"TruckPlatoonsLaw", "key", "(LTruckPlatoons;II[J)I"⟩ ∈ lw_big := x_t5 (List.mem_of_getElem? (i := 110) rfl) rfl
theorem w_5_112 : Cond.methodLink "TruckPlatoonsLaw" 28 ⟨"TruckPlatoons", "key", "(II)I"⟩ ∈ lw_big := x_t5 (List.mem_of_getElem? (i := 112) rfl) rfl
theorem w_5_113 : Cond.instanceMethod ⟨"TruckPlatoons", "key", "(II)I"⟩ ∈ lw_big := x_t5 (List.mem_of_getElem? (i := 113) rfl) rfl
theorem w_5_114 : Cond.selects "TruckPlatoons" ⟨"TruckPlatoons", "key", "(II)I"⟩ ⟨"TruckPlatoons", "key", "(II)I"⟩ ∈ lw_big := x_t5 (List.mem_of_getElem? (i := 114) rfl) rfl
theorem w_5_115 : Cond.code ⟨"TruckPlatoons", "key", "(II)I"⟩ prog_1_method_16_code 3 (Option.some FieldType.int) ∈ lw_big := x_t5 (List.mem_of_getElem? (i := 115) rfl) rfl
theorem w_5_116 : Cond.methodLink "TruckPlatoonsLaw" 166 ⟨"TruckPlatoonsLaw", "platoon", "(LTruckPlatoons;III[J)I"⟩ ∈ lw_big := x_t5 (List.mem_of_getElem? (i := 116) rfl) rfl
theorem w_5_117 : Cond.static ⟨"TruckPlatoonsLaw", "platoon", "(LTruckPlatoons;III[J)I"⟩ ∈ lw_big := x_t5 (List.mem_of_getElem? (i := 117) rfl) rfl
theorem w_5_119 : Cond.methodLink "TruckPlatoonsLaw" 31 ⟨"TruckPlatoons", "platoon", "(III)I"⟩ ∈ lw_big := x_t5 (List.mem_of_getElem? (i := 119) rfl) rfl
theorem w_5_120 : Cond.instanceMethod ⟨"TruckPlatoons", "platoon", "(III)I"⟩ ∈ lw_big := x_t5 (List.mem_of_getElem? (i := 120) rfl) rfl
theorem w_5_121 : Cond.selects "TruckPlatoons" ⟨"TruckPlatoons", "platoon", "(III)I"⟩ ⟨"TruckPlatoons", "platoon", "(III)I"⟩ ∈ lw_big := x_t5 (List.mem_of_getElem? (i := 121) rfl) rfl
theorem w_5_122 : Cond.code ⟨"TruckPlatoons", "platoon", "(III)I"⟩ prog_1_method_17_code 6 (Option.some FieldType.int) ∈ lw_big := x_t5 (List.mem_of_getElem? (i := 122) rfl) rfl
theorem w_5_123 : Cond.methodLink "TruckPlatoons" 286 ⟨"TruckPlatoons", "checkPlatoon", "(II)V"⟩ ∈ lw_big := x_t5 (List.mem_of_getElem? (i := 123) rfl) rfl
theorem w_5_125 : Cond.instanceMethod ⟨"TruckPlatoons", "checkPlatoon", "(II)V"⟩ ∈ lw_big := x_t5 (List.mem_of_getElem? (i := 125) rfl) rfl
theorem w_5_126 : Cond.code ⟨"TruckPlatoons", "checkPlatoon", "(II)V"⟩ prog_1_method_68_code 3 (Option.none : Option Jvm.ClassFile.FieldType) ∈ lw_big := x_t5 (List.mem_of_getElem? (i := 126) rfl) rfl
theorem w_5_128 : Cond.methodLink "TruckPlatoons" 289 ⟨"TruckPlatoons$Plan", "firstOf", "(II)I"⟩ ∈ lw_big := x_t5 (List.mem_of_getElem? (i := 128) rfl) rfl
theorem w_5_129 : Cond.instanceMethod ⟨"TruckPlatoons$Plan", "firstOf", "(II)I"⟩ ∈ lw_big := x_t5 (List.mem_of_getElem? (i := 129) rfl) rfl
theorem w_5_130 : Cond.selects "TruckPlatoons$Plan" ⟨"TruckPlatoons$Plan", "firstOf", "(II)I"⟩ ⟨"TruckPlatoons$Plan", "firstOf", "(II)I"⟩ ∈ lw_big := x_t5 (List.mem_of_getElem? (i := 130) rfl) rfl
theorem w_5_131 : Cond.code ⟨"TruckPlatoons$Plan", "firstOf", "(II)I"⟩ prog_8_method_19_code 4 (Option.some FieldType.int) ∈ lw_big := x_t5 (List.mem_of_getElem? (i := 131) rfl) rfl
theorem w_5_132 : Cond.methodLink "TruckPlatoons" 292 ⟨"TruckPlatoons$Plan", "afterPlatoon", "(II)I"⟩ ∈ lw_big := x_t5 (List.mem_of_getElem? (i := 132) rfl) rfl
theorem w_5_133 : Cond.instanceMethod ⟨"TruckPlatoons$Plan", "afterPlatoon", "(II)I"⟩ ∈ lw_big := x_t5 (List.mem_of_getElem? (i := 133) rfl) rfl
theorem w_5_134 : Cond.selects "TruckPlatoons$Plan" ⟨"TruckPlatoons$Plan", "afterPlatoon", "(II)I"⟩ ⟨"TruckPlatoons$Plan", "afterPlatoon", "(II)I"⟩ ∈ lw_big := x_t5 (List.mem_of_getElem? (i := 134) rfl) rfl
theorem w_5_135 : Cond.code ⟨"TruckPlatoons$Plan", "afterPlatoon", "(II)I"⟩ prog_8_method_20_code 4 (Option.some FieldType.int) ∈ lw_big := x_t5 (List.mem_of_getElem? (i := 135) rfl) rfl
theorem w_5_136 : Cond.methodLink "TruckPlatoons" 295 ⟨"TruckPlatoons$Plan", "trucksOnRows", "(II)I"⟩ ∈ lw_big := x_t5 (List.mem_of_getElem? (i := 136) rfl) rfl
theorem w_5_137 : Cond.instanceMethod ⟨"TruckPlatoons$Plan", "trucksOnRows", "(II)I"⟩ ∈ lw_big := x_t5 (List.mem_of_getElem? (i := 137) rfl) rfl
theorem w_5_138 : Cond.selects "TruckPlatoons$Plan" ⟨"TruckPlatoons$Plan", "trucksOnRows", "(II)I"⟩ ⟨"TruckPlatoons$Plan", "trucksOnRows", "(II)I"⟩ ∈ lw_big := x_t5 (List.mem_of_getElem? (i := 138) rfl) rfl
theorem w_5_139 : Cond.code ⟨"TruckPlatoons$Plan", "trucksOnRows", "(II)I"⟩ prog_8_method_33_code 5 (Option.some FieldType.int) ∈ lw_big := x_t5 (List.mem_of_getElem? (i := 139) rfl) rfl
theorem w_5_140 : Cond.methodLink "TruckPlatoonsLaw" 169 ⟨"TruckPlatoonsLaw", "member", "(LTruckPlatoons;III[J)I"⟩ ∈ lw_big := x_t5 (List.mem_of_getElem? (i := 140) rfl) rfl
theorem w_5_141 : Cond.static ⟨"TruckPlatoonsLaw", "member", "(LTruckPlatoons;III[J)I"⟩ ∈ lw_big := x_t5 (List.mem_of_getElem? (i := 141) rfl) rfl
theorem w_5_143 : Cond.methodLink "TruckPlatoonsLaw" 34 ⟨"TruckPlatoons", "member", "(III)I"⟩ ∈ lw_big := x_t5 (List.mem_of_getElem? (i := 143) rfl) rfl
theorem w_5_144 : Cond.instanceMethod ⟨"TruckPlatoons", "member", "(III)I"⟩ ∈ lw_big := x_t5 (List.mem_of_getElem? (i := 144) rfl) rfl
theorem w_5_145 : Cond.selects "TruckPlatoons" ⟨"TruckPlatoons", "member", "(III)I"⟩ ⟨"TruckPlatoons", "member", "(III)I"⟩ ∈ lw_big := x_t5 (List.mem_of_getElem? (i := 145) rfl) rfl
theorem w_5_146 : Cond.code ⟨"TruckPlatoons", "member", "(III)I"⟩ prog_1_method_18_code 6 (Option.some FieldType.int) ∈ lw_big := x_t5 (List.mem_of_getElem? (i := 146) rfl) rfl
theorem w_5_147 : Cond.methodLink "TruckPlatoons" 298 ⟨"TruckPlatoons", "checkPosition", "(I)V"⟩ ∈ lw_big := x_t5 (List.mem_of_getElem? (i := 147) rfl) rfl
theorem w_5_148 : Cond.static ⟨"TruckPlatoons", "checkPosition", "(I)V"⟩ ∈ lw_big := x_t5 (List.mem_of_getElem? (i := 148) rfl) rfl
theorem w_5_149 : Cond.code ⟨"TruckPlatoons", "checkPosition", "(I)V"⟩ prog_1_method_69_code 1 (Option.none : Option Jvm.ClassFile.FieldType) ∈ lw_big := x_t5 (List.mem_of_getElem? (i := 149) rfl) rfl
theorem w_5_151 : Cond.methodLink "TruckPlatoonsLaw" 172 ⟨"TruckPlatoonsLaw", "together", "(LTruckPlatoons;II[J)I"⟩ ∈ lw_big := x_t5 (List.mem_of_getElem? (i := 151) rfl) rfl
theorem w_5_152 : Cond.static ⟨"TruckPlatoonsLaw", "together", "(LTruckPlatoons;II[J)I"⟩ ∈ lw_big := x_t5 (List.mem_of_getElem? (i := 152) rfl) rfl
theorem w_5_154 : Cond.methodLink "TruckPlatoonsLaw" 37 ⟨"TruckPlatoons", "together", "(II)I"⟩ ∈ lw_big := x_t5 (List.mem_of_getElem? (i := 154) rfl) rfl
theorem w_5_155 : Cond.instanceMethod ⟨"TruckPlatoons", "together", "(II)I"⟩ ∈ lw_big := x_t5 (List.mem_of_getElem? (i := 155) rfl) rfl
theorem w_5_156 : Cond.selects "TruckPlatoons" ⟨"TruckPlatoons", "together", "(II)I"⟩ ⟨"TruckPlatoons", "together", "(II)I"⟩ ∈ lw_big := x_t5 (List.mem_of_getElem? (i := 156) rfl) rfl
theorem w_5_157 : Cond.code ⟨"TruckPlatoons", "together", "(II)I"⟩ prog_1_method_19_code 6 (Option.some FieldType.int) ∈ lw_big := x_t5 (List.mem_of_getElem? (i := 157) rfl) rfl
theorem w_5_158 : Cond.methodLink "TruckPlatoons" 304 ⟨"TruckPlatoons$Plan", "inOnePlatoon", "(II)Z"⟩ ∈ lw_big := x_t5 (List.mem_of_getElem? (i := 158) rfl) rfl
theorem w_5_159 : Cond.instanceMethod ⟨"TruckPlatoons$Plan", "inOnePlatoon", "(II)Z"⟩ ∈ lw_big := x_t5 (List.mem_of_getElem? (i := 159) rfl) rfl
theorem w_5_160 : Cond.selects "TruckPlatoons$Plan" ⟨"TruckPlatoons$Plan", "inOnePlatoon", "(II)Z"⟩ ⟨"TruckPlatoons$Plan", "inOnePlatoon", "(II)Z"⟩ ∈ lw_big := x_t5 (List.mem_of_getElem? (i := 160) rfl) rfl
theorem w_5_161 : Cond.code ⟨"TruckPlatoons$Plan", "inOnePlatoon", "(II)Z"⟩ prog_8_method_36_code 3 (Option.some FieldType.boolean) ∈ lw_big := x_t5 (List.mem_of_getElem? (i := 161) rfl) rfl
theorem w_5_162 : Cond.methodLink "TruckPlatoonsLaw" 175 ⟨"TruckPlatoonsLaw", "pairSaved", "(LTruckPlatoons;II[J)I"⟩ ∈ lw_big := x_t5 (List.mem_of_getElem? (i := 162) rfl) rfl
theorem w_5_163 : Cond.static ⟨"TruckPlatoonsLaw", "pairSaved", "(LTruckPlatoons;II[J)I"⟩ ∈ lw_big := x_t5 (List.mem_of_getElem? (i := 163) rfl) rfl
theorem w_5_165 : Cond.methodLink "TruckPlatoonsLaw" 40 ⟨"TruckPlatoons", "pairSaved", "(II)I"⟩ ∈ lw_big := x_t5 (List.mem_of_getElem? (i := 165) rfl) rfl
theorem w_5_166 : Cond.instanceMethod ⟨"TruckPlatoons", "pairSaved", "(II)I"⟩ ∈ lw_big := x_t5 (List.mem_of_getElem? (i := 166) rfl) rfl
theorem w_5_167 : Cond.selects "TruckPlatoons" ⟨"TruckPlatoons", "pairSaved", "(II)I"⟩ ⟨"TruckPlatoons", "pairSaved", "(II)I"⟩ ∈ lw_big := x_t5 (List.mem_of_getElem? (i := 167) rfl) rfl
theorem w_5_168 : Cond.code ⟨"TruckPlatoons", "pairSaved", "(II)I"⟩ prog_1_method_20_code 6 (Option.some FieldType.int) ∈ lw_big := x_t5 (List.mem_of_getElem? (i := 168) rfl) rfl
theorem w_5_169 : Cond.methodLink "TruckPlatoons" 308 ⟨"TruckPlatoons$Plan", "savedByPair", "(II)I"⟩ ∈ lw_big := x_t5 (List.mem_of_getElem? (i := 169) rfl) rfl
theorem w_5_170 : Cond.instanceMethod ⟨"TruckPlatoons$Plan", "savedByPair", "(II)I"⟩ ∈ lw_big := x_t5 (List.mem_of_getElem? (i := 170) rfl) rfl
theorem w_5_171 : Cond.selects "TruckPlatoons$Plan" ⟨"TruckPlatoons$Plan", "savedByPair", "(II)I"⟩ ⟨"TruckPlatoons$Plan", "savedByPair", "(II)I"⟩ ∈ lw_big := x_t5 (List.mem_of_getElem? (i := 171) rfl) rfl
theorem w_5_172 : Cond.code ⟨"TruckPlatoons$Plan", "savedByPair", "(II)I"⟩ prog_8_method_37_code 6 (Option.some FieldType.int) ∈ lw_big := x_t5 (List.mem_of_getElem? (i := 172) rfl) rfl
theorem w_5_173 : Cond.methodLink "TruckPlatoons$Plan" 179 ⟨"TruckPlatoons$Plan", "inOnePlatoon", "(II)Z"⟩ ∈ lw_big := x_t5 (List.mem_of_getElem? (i := 173) rfl) rfl
theorem w_5_174 : Cond.methodLink "TruckPlatoonsLaw" 178 ⟨"TruckPlatoonsLaw", "run", "(LTruckPlatoons;III[J)I"⟩ ∈ lw_big := x_t5 (List.mem_of_getElem? (i := 174) rfl) rfl
theorem w_5_175 : Cond.static ⟨"TruckPlatoonsLaw", "run", "(LTruckPlatoons;III[J)I"⟩ ∈ lw_big := x_t5 (List.mem_of_getElem? (i := 175) rfl) rfl
theorem w_5_177 : Cond.classLink "TruckPlatoonsLaw" 46 "java/lang/IllegalArgumentException" ∈ lw_big := x_t5 (List.mem_of_getElem? (i := 177) rfl) rfl
theorem w_5_178 : Cond.methodLink "TruckPlatoonsLaw" 43 ⟨"TruckPlatoons", "run", "(III)I"⟩ ∈ lw_big := x_t5 (List.mem_of_getElem? (i := 178) rfl) rfl
theorem w_5_179 : Cond.instanceMethod ⟨"TruckPlatoons", "run", "(III)I"⟩ ∈ lw_big := x_t5 (List.mem_of_getElem? (i := 179) rfl) rfl
theorem w_5_180 : Cond.selects "TruckPlatoons" ⟨"TruckPlatoons", "run", "(III)I"⟩ ⟨"TruckPlatoons", "run", "(III)I"⟩ ∈ lw_big := x_t5 (List.mem_of_getElem? (i := 180) rfl) rfl
theorem w_5_181 : Cond.code ⟨"TruckPlatoons", "run", "(III)I"⟩ prog_1_method_21_code 4 (Option.some FieldType.int) ∈ lw_big := x_t5 (List.mem_of_getElem? (i := 181) rfl) rfl
theorem w_5_182 : Cond.methodLink "TruckPlatoons" 311 ⟨"TruckPlatoons", "checkRange", "(III)V"⟩ ∈ lw_big := x_t5 (List.mem_of_getElem? (i := 182) rfl) rfl
theorem w_5_183 : Cond.static ⟨"TruckPlatoons", "checkRange", "(III)V"⟩ ∈ lw_big := x_t5 (List.mem_of_getElem? (i := 183) rfl) rfl
theorem w_5_184 : Cond.code ⟨"TruckPlatoons", "checkRange", "(III)V"⟩ prog_1_method_70_code 3 (Option.none : Option Jvm.ClassFile.FieldType) ∈ lw_big := x_t5 (List.mem_of_getElem? (i := 184) rfl) rfl
theorem w_5_185 : Cond.classLink "TruckPlatoons" 486 "java/lang/IllegalArgumentException" ∈ lw_big := x_t5 (List.mem_of_getElem? (i := 185) rfl) rfl
theorem w_5_186 : Cond.instantiable "java/lang/IllegalArgumentException" 6 ∈ lw_big := x_t5 (List.mem_of_getElem? (i := 186) rfl) rfl
theorem w_5_188 : Cond.selects "java/lang/IllegalArgumentException" ⟨"java/lang/Throwable", "fillInStackTrace", "(I)Ljava/lang/Throwable;"⟩ ⟨"java/lang/Throwable", "fillInStackTrace", "(I)Ljava/lang/Throwable;"⟩ ∈ lw_big := x_t5 (List.mem_of_getElem? (i := 188) rfl) rfl
theorem w_5_189 : Cond.lays "java/lang/IllegalArgumentException" "java/lang/Throwable" "cause" "Ljava/lang/Throwable;" ∈ lw_big := x_t5 (List.mem_of_getElem? (i := 189) rfl) rfl
theorem w_5_190 : Cond.lays "java/lang/IllegalArgumentException" "java/lang/Throwable" "stackTrace" "[Ljava/lang/StackTraceElement;" ∈ lw_big := x_t5 (List.mem_of_getElem? (i := 190) rfl) rfl
theorem w_5_191 : Cond.lays "java/lang/IllegalArgumentException" "java/lang/Throwable" "suppressedExceptions" "Ljava/util/List;" ∈ lw_big := x_t5 (List.mem_of_getElem? (i := 191) rfl) rfl
theorem w_5_192 : Cond.lays "java/lang/IllegalArgumentException" "java/lang/Throwable" "detailMessage" "Ljava/lang/String;" ∈ lw_big := x_t5 (List.mem_of_getElem? (i := 192) rfl) rfl
theorem w_5_193 : Cond.lays "java/lang/IllegalArgumentException" "java/lang/Throwable" "backtrace" "Ljava/lang/Object;" ∈ lw_big := x_t5 (List.mem_of_getElem? (i := 193) rfl) rfl
theorem w_5_195 : Cond.methodLink "TruckPlatoons" 490 ⟨"java/lang/IllegalArgumentException", "<init>", "(Ljava/lang/String;)V"⟩ ∈ lw_big := x_t5 (List.mem_of_getElem? (i := 195) rfl) rfl
theorem w_5_196 : Cond.instanceMethod ⟨"java/lang/IllegalArgumentException", "<init>", "(Ljava/lang/String;)V"⟩ ∈ lw_big := x_t5 (List.mem_of_getElem? (i := 196) rfl) rfl
theorem w_5_197 : Cond.code ⟨"java/lang/IllegalArgumentException", "<init>", "(Ljava/lang/String;)V"⟩ prog_18_method_2_code 2 (Option.none : Option Jvm.ClassFile.FieldType) ∈ lw_big := x_t5 (List.mem_of_getElem? (i := 197) rfl) rfl
theorem w_5_198 : Cond.methodLink "java/lang/IllegalArgumentException" 7 ⟨"java/lang/RuntimeException", "<init>", "(Ljava/lang/String;)V"⟩ ∈ lw_big := x_t5 (List.mem_of_getElem? (i := 198) rfl) rfl
theorem w_5_199 : Cond.lays "java/lang/IllegalArgumentException" "java/lang/Throwable" "depth" "I" ∈ lw_big := x_t5 (List.mem_of_getElem? (i := 199) rfl) rfl
theorem w_5_201 : Cond.methodLink "TruckPlatoons" 315 ⟨"TruckPlatoons$Merger", "findRun", "(II)V"⟩ ∈ lw_big := x_t5 (List.mem_of_getElem? (i := 201) rfl) rfl
theorem w_5_202 : Cond.methodLink "TruckPlatoonsLaw" 181 ⟨"TruckPlatoonsLaw", "common", "(LTruckPlatoons;II[J)I"⟩ ∈ lw_big := x_t5 (List.mem_of_getElem? (i := 202) rfl) rfl
theorem w_5_203 : Cond.static ⟨"TruckPlatoonsLaw", "common", "(LTruckPlatoons;II[J)I"⟩ ∈ lw_big := x_t5 (List.mem_of_getElem? (i := 203) rfl) rfl
theorem w_5_205 : Cond.methodLink "TruckPlatoonsLaw" 48 ⟨"TruckPlatoons", "common", "(II)I"⟩ ∈ lw_big := x_t5 (List.mem_of_getElem? (i := 205) rfl) rfl
theorem w_5_206 : Cond.instanceMethod ⟨"TruckPlatoons", "common", "(II)I"⟩ ∈ lw_big := x_t5 (List.mem_of_getElem? (i := 206) rfl) rfl
theorem w_5_207 : Cond.selects "TruckPlatoons" ⟨"TruckPlatoons", "common", "(II)I"⟩ ⟨"TruckPlatoons", "common", "(II)I"⟩ ∈ lw_big := x_t5 (List.mem_of_getElem? (i := 207) rfl) rfl
theorem w_5_208 : Cond.code ⟨"TruckPlatoons", "common", "(II)I"⟩ prog_1_method_22_code 5 (Option.some FieldType.int) ∈ lw_big := x_t5 (List.mem_of_getElem? (i := 208) rfl) rfl
theorem w_5_209 : Cond.methodLink "TruckPlatoons" 327 ⟨"TruckPlatoons$Routes", "isOn", "(II)Z"⟩ ∈ lw_big := x_t5 (List.mem_of_getElem? (i := 209) rfl) rfl
theorem w_5_210 : Cond.instanceMethod ⟨"TruckPlatoons$Routes", "isOn", "(II)Z"⟩ ∈ lw_big := x_t5 (List.mem_of_getElem? (i := 210) rfl) rfl
theorem w_5_211 : Cond.selects "TruckPlatoons$Routes" ⟨"TruckPlatoons$Routes", "isOn", "(II)Z"⟩ ⟨"TruckPlatoons$Routes", "isOn", "(II)Z"⟩ ∈ lw_big := x_t5 (List.mem_of_getElem? (i := 211) rfl) rfl
theorem w_5_212 : Cond.code ⟨"TruckPlatoons$Routes", "isOn", "(II)Z"⟩ prog_9_method_8_code 3 (Option.some FieldType.boolean) ∈ lw_big := x_t5 (List.mem_of_getElem? (i := 212) rfl) rfl
theorem w_5_213 : Cond.methodLink "TruckPlatoons$Routes" 64 ⟨"TruckPlatoons$Routes", "trucksOn", "(I)I"⟩ ∈ lw_big := x_t5 (List.mem_of_getElem? (i := 213) rfl) rfl
theorem w_5_214 : Cond.methodLink "TruckPlatoonsLaw" 184 ⟨"TruckPlatoonsLaw", "slack", "(LTruckPlatoons;I[J)I"⟩ ∈ lw_big := x_t5 (List.mem_of_getElem? (i := 214) rfl) rfl
theorem w_5_215 : Cond.static ⟨"TruckPlatoonsLaw", "slack", "(LTruckPlatoons;I[J)I"⟩ ∈ lw_big := x_t5 (List.mem_of_getElem? (i := 215) rfl) rfl
theorem w_5_217 : Cond.methodLink "TruckPlatoonsLaw" 51 ⟨"TruckPlatoons", "slack", "(I)I"⟩ ∈ lw_big := x_t5 (List.mem_of_getElem? (i := 217) rfl) rfl
theorem w_5_218 : Cond.instanceMethod ⟨"TruckPlatoons", "slack", "(I)I"⟩ ∈ lw_big := x_t5 (List.mem_of_getElem? (i := 218) rfl) rfl
theorem w_5_219 : Cond.selects "TruckPlatoons" ⟨"TruckPlatoons", "slack", "(I)I"⟩ ⟨"TruckPlatoons", "slack", "(I)I"⟩ ∈ lw_big := x_t5 (List.mem_of_getElem? (i := 219) rfl) rfl
theorem w_5_220 : Cond.code ⟨"TruckPlatoons", "slack", "(I)I"⟩ prog_1_method_23_code 2 (Option.some FieldType.int) ∈ lw_big := x_t5 (List.mem_of_getElem? (i := 220) rfl) rfl
theorem w_5_221 : Cond.methodLink "TruckPlatoonsLaw" 188 ⟨"TruckPlatoonsLaw", "neededSpeed", "(LTruckPlatoons;III[J)I"⟩ ∈ lw_big := x_t5 (List.mem_of_getElem? (i := 221) rfl) rfl
theorem w_5_222 : Cond.static ⟨"TruckPlatoonsLaw", "neededSpeed", "(LTruckPlatoons;III[J)I"⟩ ∈ lw_big := x_t5 (List.mem_of_getElem? (i := 222) rfl) rfl
theorem w_5_224 : Cond.methodLink "TruckPlatoonsLaw" 55 ⟨"TruckPlatoons", "neededSpeed", "(III)I"⟩ ∈ lw_big := x_t5 (List.mem_of_getElem? (i := 224) rfl) rfl
theorem w_5_225 : Cond.instanceMethod ⟨"TruckPlatoons", "neededSpeed", "(III)I"⟩ ∈ lw_big := x_t5 (List.mem_of_getElem? (i := 225) rfl) rfl
theorem w_5_226 : Cond.selects "TruckPlatoons" ⟨"TruckPlatoons", "neededSpeed", "(III)I"⟩ ⟨"TruckPlatoons", "neededSpeed", "(III)I"⟩ ∈ lw_big := x_t5 (List.mem_of_getElem? (i := 226) rfl) rfl
theorem w_5_227 : Cond.code ⟨"TruckPlatoons", "neededSpeed", "(III)I"⟩ prog_1_method_24_code 7 (Option.some FieldType.int) ∈ lw_big := x_t5 (List.mem_of_getElem? (i := 227) rfl) rfl
theorem w_5_228 : Cond.methodLink "TruckPlatoons" 330 ⟨"TruckPlatoons$Fleet", "minutes", "(II)I"⟩ ∈ lw_big := x_t5 (List.mem_of_getElem? (i := 228) rfl) rfl
theorem w_5_229 : Cond.methodLink "TruckPlatoonsLaw" 191 ⟨"TruckPlatoonsLaw", "setWait", "(LTruckPlatoons;III[J)I"⟩ ∈ lw_big := x_t5 (List.mem_of_getElem? (i := 229) rfl) rfl
theorem w_5_230 : Cond.static ⟨"TruckPlatoonsLaw", "setWait", "(LTruckPlatoons;III[J)I"⟩ ∈ lw_big := x_t5 (List.mem_of_getElem? (i := 230) rfl) rfl
theorem w_5_232 : Cond.methodLink "TruckPlatoonsLaw" 58 ⟨"TruckPlatoons", "setWait", "(III)I"⟩ ∈ lw_big := x_t5 (List.mem_of_getElem? (i := 232) rfl) rfl
theorem w_5_233 : Cond.instanceMethod ⟨"TruckPlatoons", "setWait", "(III)I"⟩ ∈ lw_big := x_t5 (List.mem_of_getElem? (i := 233) rfl) rfl
theorem w_5_234 : Cond.selects "TruckPlatoons" ⟨"TruckPlatoons", "setWait", "(III)I"⟩ ⟨"TruckPlatoons", "setWait", "(III)I"⟩ ∈ lw_big := x_t5 (List.mem_of_getElem? (i := 234) rfl) rfl
theorem w_5_235 : Cond.code ⟨"TruckPlatoons", "setWait", "(III)I"⟩ prog_1_method_25_code 4 (Option.some FieldType.int) ∈ lw_big := x_t5 (List.mem_of_getElem? (i := 235) rfl) rfl
theorem w_5_236 : Cond.methodLink "TruckPlatoonsLaw" 194 ⟨"TruckPlatoonsLaw", "setSpeed", "(LTruckPlatoons;III[J)I"⟩ ∈ lw_big := x_t5 (List.mem_of_getElem? (i := 236) rfl) rfl
theorem w_5_237 : Cond.static ⟨"TruckPlatoonsLaw", "setSpeed", "(LTruckPlatoons;III[J)I"⟩ ∈ lw_big := x_t5 (List.mem_of_getElem? (i := 237) rfl) rfl
theorem w_5_239 : Cond.methodLink "TruckPlatoonsLaw" 61 ⟨"TruckPlatoons", "setSpeed", "(III)I"⟩ ∈ lw_big := x_t5 (List.mem_of_getElem? (i := 239) rfl) rfl
theorem w_6_0 : Cond.instanceMethod ⟨"TruckPlatoons", "setSpeed", "(III)I"⟩ ∈ lw_big := x_t6 (List.mem_of_getElem? (i := 0) rfl) rfl
theorem w_6_1 : Cond.selects "TruckPlatoons" ⟨"TruckPlatoons", "setSpeed", "(III)I"⟩ ⟨"TruckPlatoons", "setSpeed", "(III)I"⟩ ∈ lw_big := x_t6 (List.mem_of_getElem? (i := 1) rfl) rfl
theorem w_6_2 : Cond.code ⟨"TruckPlatoons", "setSpeed", "(III)I"⟩ prog_1_method_27_code 5 (Option.some FieldType.int) ∈ lw_big := x_t6 (List.mem_of_getElem? (i := 2) rfl) rfl
theorem w_6_3 : Cond.methodLink "TruckPlatoonsLaw" 197 ⟨"TruckPlatoonsLaw", "setStart", "(LTruckPlatoons;II[J)I"⟩ ∈ lw_big := x_t6 (List.mem_of_getElem? (i := 3) rfl) rfl
theorem w_6_4 : Cond.static ⟨"TruckPlatoonsLaw", "setStart", "(LTruckPlatoons;II[J)I"⟩ ∈ lw_big := x_t6 (List.mem_of_getElem? (i := 4) rfl) rfl
theorem w_6_6 : Cond.methodLink "TruckPlatoonsLaw" 64 ⟨"TruckPlatoons", "setStart", "(II)I"⟩ ∈ lw_big := x_t6 (List.mem_of_getElem? (i := 6) rfl) rfl
theorem w_6_7 : Cond.instanceMethod ⟨"TruckPlatoons", "setStart", "(II)I"⟩ ∈ lw_big := x_t6 (List.mem_of_getElem? (i := 7) rfl) rfl
theorem w_6_8 : Cond.selects "TruckPlatoons" ⟨"TruckPlatoons", "setStart", "(II)I"⟩ ⟨"TruckPlatoons", "setStart", "(II)I"⟩ ∈ lw_big := x_t6 (List.mem_of_getElem? (i := 8) rfl) rfl
theorem w_6_9 : Cond.code ⟨"TruckPlatoons", "setStart", "(II)I"⟩ prog_1_method_29_code 3 (Option.some FieldType.int) ∈ lw_big := x_t6 (List.mem_of_getElem? (i := 9) rfl) rfl
theorem w_6_10 : Cond.methodLink "TruckPlatoonsLaw" 200 ⟨"TruckPlatoonsLaw", "reason", "(LTruckPlatoons;II[J)I"⟩ ∈ lw_big := x_t6 (List.mem_of_getElem? (i := 10) rfl) rfl
theorem w_6_11 : Cond.static ⟨"TruckPlatoonsLaw", "reason", "(LTruckPlatoons;II[J)I"⟩ ∈ lw_big := x_t6 (List.mem_of_getElem? (i := 11) rfl) rfl
theorem w_6_13 : Cond.methodLink "TruckPlatoonsLaw" 67 ⟨"TruckPlatoons", "reason", "(II)I"⟩ ∈ lw_big := x_t6 (List.mem_of_getElem? (i := 13) rfl) rfl
theorem w_6_14 : Cond.instanceMethod ⟨"TruckPlatoons", "reason", "(II)I"⟩ ∈ lw_big := x_t6 (List.mem_of_getElem? (i := 14) rfl) rfl
theorem w_6_15 : Cond.selects "TruckPlatoons" ⟨"TruckPlatoons", "reason", "(II)I"⟩ ⟨"TruckPlatoons", "reason", "(II)I"⟩ ∈ lw_big := x_t6 (List.mem_of_getElem? (i := 15) rfl) rfl
theorem w_6_16 : Cond.code ⟨"TruckPlatoons", "reason", "(II)I"⟩ prog_1_method_31_code 3 (Option.some FieldType.int) ∈ lw_big := x_t6 (List.mem_of_getElem? (i := 16) rfl) rfl
theorem w_6_17 : Cond.methodLink "TruckPlatoonsLaw" 203 ⟨"TruckPlatoonsLaw", "merge", "(LTruckPlatoons;II[J)I"⟩ ∈ lw_big := x_t6 (List.mem_of_getElem? (i := 17) rfl) rfl
theorem w_6_18 : Cond.static ⟨"TruckPlatoonsLaw", "merge", "(LTruckPlatoons;II[J)I"⟩ ∈ lw_big := x_t6 (List.mem_of_getElem? (i := 18) rfl) rfl
theorem w_6_20 : Cond.methodLink "TruckPlatoonsLaw" 70 ⟨"TruckPlatoons", "merge", "(II)I"⟩ ∈ lw_big := x_t6 (List.mem_of_getElem? (i := 20) rfl) rfl
theorem w_6_21 : Cond.instanceMethod ⟨"TruckPlatoons", "merge", "(II)I"⟩ ∈ lw_big := x_t6 (List.mem_of_getElem? (i := 21) rfl) rfl
theorem w_6_22 : Cond.selects "TruckPlatoons" ⟨"TruckPlatoons", "merge", "(II)I"⟩ ⟨"TruckPlatoons", "merge", "(II)I"⟩ ∈ lw_big := x_t6 (List.mem_of_getElem? (i := 22) rfl) rfl
theorem w_6_23 : Cond.code ⟨"TruckPlatoons", "merge", "(II)I"⟩ prog_1_method_32_code 3 (Option.some FieldType.int) ∈ lw_big := x_t6 (List.mem_of_getElem? (i := 23) rfl) rfl
theorem w_6_24 : Cond.methodLink "TruckPlatoonsLaw" 206 ⟨"TruckPlatoonsLaw", "gain", "(LTruckPlatoons;II[J)I"⟩ ∈ lw_big := x_t6 (List.mem_of_getElem? (i := 24) rfl) rfl
theorem w_6_25 : Cond.static ⟨"TruckPlatoonsLaw", "gain", "(LTruckPlatoons;II[J)I"⟩ ∈ lw_big := x_t6 (List.mem_of_getElem? (i := 25) rfl) rfl
theorem w_6_27 : Cond.classLink "TruckPlatoonsLaw" 76 "java/lang/IllegalStateException" ∈ lw_big := x_t6 (List.mem_of_getElem? (i := 27) rfl) rfl
theorem w_6_28 : Cond.methodLink "TruckPlatoonsLaw" 73 ⟨"TruckPlatoons", "gain", "(II)I"⟩ ∈ lw_big := x_t6 (List.mem_of_getElem? (i := 28) rfl) rfl
theorem w_6_29 : Cond.instanceMethod ⟨"TruckPlatoons", "gain", "(II)I"⟩ ∈ lw_big := x_t6 (List.mem_of_getElem? (i := 29) rfl) rfl
theorem w_6_30 : Cond.selects "TruckPlatoons" ⟨"TruckPlatoons", "gain", "(II)I"⟩ ⟨"TruckPlatoons", "gain", "(II)I"⟩ ∈ lw_big := x_t6 (List.mem_of_getElem? (i := 30) rfl) rfl
theorem w_6_31 : Cond.code ⟨"TruckPlatoons", "gain", "(II)I"⟩ prog_1_method_34_code 3 (Option.some FieldType.int) ∈ lw_big := x_t6 (List.mem_of_getElem? (i := 31) rfl) rfl
theorem w_6_32 : Cond.classLink "TruckPlatoons" 357 "java/lang/IllegalStateException" ∈ lw_big := x_t6 (List.mem_of_getElem? (i := 32) rfl) rfl
theorem w_6_33 : Cond.instantiable "java/lang/IllegalStateException" 6 ∈ lw_big := x_t6 (List.mem_of_getElem? (i := 33) rfl) rfl
theorem w_6_35 : Cond.selects "java/lang/IllegalStateException" ⟨"java/lang/Throwable", "fillInStackTrace", "(I)Ljava/lang/Throwable;"⟩ ⟨"java/lang/Throwable", "fillInStackTrace", "(I)Ljava/lang/Throwable;"⟩ ∈ lw_big := x_t6 (List.mem_of_getElem? (i := 35) rfl) rfl
theorem w_6_36 : Cond.lays "java/lang/IllegalStateException" "java/lang/Throwable" "cause" "Ljava/lang/Throwable;" ∈ lw_big := x_t6 (List.mem_of_getElem? (i := 36) rfl) rfl
theorem w_6_37 : Cond.lays "java/lang/IllegalStateException" "java/lang/Throwable" "stackTrace" "[Ljava/lang/StackTraceElement;" ∈ lw_big := x_t6 (List.mem_of_getElem? (i := 37) rfl) rfl
theorem w_6_38 : Cond.lays "java/lang/IllegalStateException" "java/lang/Throwable" "suppressedExceptions" "Ljava/util/List;" ∈ lw_big := x_t6 (List.mem_of_getElem? (i := 38) rfl) rfl
theorem w_6_39 : Cond.lays "java/lang/IllegalStateException" "java/lang/Throwable" "detailMessage" "Ljava/lang/String;" ∈ lw_big := x_t6 (List.mem_of_getElem? (i := 39) rfl) rfl
theorem w_6_40 : Cond.lays "java/lang/IllegalStateException" "java/lang/Throwable" "backtrace" "Ljava/lang/Object;" ∈ lw_big := x_t6 (List.mem_of_getElem? (i := 40) rfl) rfl
theorem w_6_42 : Cond.methodLink "TruckPlatoons" 361 ⟨"java/lang/IllegalStateException", "<init>", "(Ljava/lang/String;)V"⟩ ∈ lw_big := x_t6 (List.mem_of_getElem? (i := 42) rfl) rfl
theorem w_6_43 : Cond.instanceMethod ⟨"java/lang/IllegalStateException", "<init>", "(Ljava/lang/String;)V"⟩ ∈ lw_big := x_t6 (List.mem_of_getElem? (i := 43) rfl) rfl
theorem w_6_44 : Cond.code ⟨"java/lang/IllegalStateException", "<init>", "(Ljava/lang/String;)V"⟩ prog_19_method_2_code 2 (Option.none : Option Jvm.ClassFile.FieldType) ∈ lw_big := x_t6 (List.mem_of_getElem? (i := 44) rfl) rfl
theorem w_6_45 : Cond.methodLink "java/lang/IllegalStateException" 7 ⟨"java/lang/RuntimeException", "<init>", "(Ljava/lang/String;)V"⟩ ∈ lw_big := x_t6 (List.mem_of_getElem? (i := 45) rfl) rfl
theorem w_6_46 : Cond.lays "java/lang/IllegalStateException" "java/lang/Throwable" "depth" "I" ∈ lw_big := x_t6 (List.mem_of_getElem? (i := 46) rfl) rfl
theorem w_6_48 : Cond.methodLink "TruckPlatoonsLaw" 209 ⟨"TruckPlatoonsLaw", "bestPartner", "(LTruckPlatoons;I[J)I"⟩ ∈ lw_big := x_t6 (List.mem_of_getElem? (i := 48) rfl) rfl
theorem w_6_49 : Cond.static ⟨"TruckPlatoonsLaw", "bestPartner", "(LTruckPlatoons;I[J)I"⟩ ∈ lw_big := x_t6 (List.mem_of_getElem? (i := 49) rfl) rfl
theorem w_6_51 : Cond.methodLink "TruckPlatoonsLaw" 78 ⟨"TruckPlatoons", "bestPartner", "(I)I"⟩ ∈ lw_big := x_t6 (List.mem_of_getElem? (i := 51) rfl) rfl
theorem w_6_52 : Cond.instanceMethod ⟨"TruckPlatoons", "bestPartner", "(I)I"⟩ ∈ lw_big := x_t6 (List.mem_of_getElem? (i := 52) rfl) rfl
theorem w_6_53 : Cond.selects "TruckPlatoons" ⟨"TruckPlatoons", "bestPartner", "(I)I"⟩ ⟨"TruckPlatoons", "bestPartner", "(I)I"⟩ ∈ lw_big := x_t6 (List.mem_of_getElem? (i := 53) rfl) rfl
theorem w_6_54 : Cond.code ⟨"TruckPlatoons", "bestPartner", "(I)I"⟩ prog_1_method_35_code 5 (Option.some FieldType.int) ∈ lw_big := x_t6 (List.mem_of_getElem? (i := 54) rfl) rfl
theorem w_6_55 : Cond.methodLink "TruckPlatoonsLaw" 216 ⟨"TruckPlatoonsLaw", "hurry", "(LTruckPlatoons;I[J)I"⟩ ∈ lw_big := x_t6 (List.mem_of_getElem? (i := 55) rfl) rfl
theorem w_6_56 : Cond.static ⟨"TruckPlatoonsLaw", "hurry", "(LTruckPlatoons;I[J)I"⟩ ∈ lw_big := x_t6 (List.mem_of_getElem? (i := 56) rfl) rfl
theorem w_6_58 : Cond.methodLink "TruckPlatoonsLaw" 81 ⟨"TruckPlatoons", "hurry", "(I)I"⟩ ∈ lw_big := x_t6 (List.mem_of_getElem? (i := 58) rfl) rfl
theorem w_6_59 : Cond.instanceMethod ⟨"TruckPlatoons", "hurry", "(I)I"⟩ ∈ lw_big := x_t6 (List.mem_of_getElem? (i := 59) rfl) rfl
theorem w_6_60 : Cond.selects "TruckPlatoons" ⟨"TruckPlatoons", "hurry", "(I)I"⟩ ⟨"TruckPlatoons", "hurry", "(I)I"⟩ ∈ lw_big := x_t6 (List.mem_of_getElem? (i := 60) rfl) rfl
theorem w_6_61 : Cond.code ⟨"TruckPlatoons", "hurry", "(I)I"⟩ prog_1_method_39_code 2 (Option.some FieldType.int) ∈ lw_big := x_t6 (List.mem_of_getElem? (i := 61) rfl) rfl
theorem w_6_62 : Cond.methodLink "TruckPlatoonsLaw" 219 ⟨"TruckPlatoonsLaw", "relax", "(LTruckPlatoons;I[J)I"⟩ ∈ lw_big := x_t6 (List.mem_of_getElem? (i := 62) rfl) rfl
theorem w_6_63 : Cond.static ⟨"TruckPlatoonsLaw", "relax", "(LTruckPlatoons;I[J)I"⟩ ∈ lw_big := x_t6 (List.mem_of_getElem? (i := 63) rfl) rfl
theorem w_6_65 : Cond.methodLink "TruckPlatoonsLaw" 84 ⟨"TruckPlatoons", "relax", "(I)I"⟩ ∈ lw_big := x_t6 (List.mem_of_getElem? (i := 65) rfl) rfl
theorem w_6_66 : Cond.instanceMethod ⟨"TruckPlatoons", "relax", "(I)I"⟩ ∈ lw_big := x_t6 (List.mem_of_getElem? (i := 66) rfl) rfl
theorem w_6_67 : Cond.selects "TruckPlatoons" ⟨"TruckPlatoons", "relax", "(I)I"⟩ ⟨"TruckPlatoons", "relax", "(I)I"⟩ ∈ lw_big := x_t6 (List.mem_of_getElem? (i := 67) rfl) rfl
theorem w_6_68 : Cond.code ⟨"TruckPlatoons", "relax", "(I)I"⟩ prog_1_method_41_code 2 (Option.some FieldType.int) ∈ lw_big := x_t6 (List.mem_of_getElem? (i := 68) rfl) rfl
theorem w_6_69 : Cond.methodLink "TruckPlatoonsLaw" 222 ⟨"TruckPlatoonsLaw", "onRoad", "(LTruckPlatoons;II[J)I"⟩ ∈ lw_big := x_t6 (List.mem_of_getElem? (i := 69) rfl) rfl
theorem w_6_70 : Cond.static ⟨"TruckPlatoonsLaw", "onRoad", "(LTruckPlatoons;II[J)I"⟩ ∈ lw_big := x_t6 (List.mem_of_getElem? (i := 70) rfl) rfl
theorem w_6_72 : Cond.methodLink "TruckPlatoonsLaw" 87 ⟨"TruckPlatoons", "onRoad", "(II)I"⟩ ∈ lw_big := x_t6 (List.mem_of_getElem? (i := 72) rfl) rfl
theorem w_6_73 : Cond.instanceMethod ⟨"TruckPlatoons", "onRoad", "(II)I"⟩ ∈ lw_big := x_t6 (List.mem_of_getElem? (i := 73) rfl) rfl
theorem w_6_74 : Cond.selects "TruckPlatoons" ⟨"TruckPlatoons", "onRoad", "(II)I"⟩ ⟨"TruckPlatoons", "onRoad", "(II)I"⟩ ∈ lw_big := x_t6 (List.mem_of_getElem? (i := 74) rfl) rfl
theorem w_6_75 : Cond.code ⟨"TruckPlatoons", "onRoad", "(II)I"⟩ prog_1_method_43_code 6 (Option.some FieldType.int) ∈ lw_big := x_t6 (List.mem_of_getElem? (i := 75) rfl) rfl
theorem w_6_76 : Cond.methodLink "TruckPlatoonsLaw" 237 ⟨"TruckPlatoonsLaw", "orderLoss", "(LTruckPlatoons;II[J)I"⟩ ∈ lw_big := x_t6 (List.mem_of_getElem? (i := 76) rfl) rfl
theorem w_6_77 : Cond.static ⟨"TruckPlatoonsLaw", "orderLoss", "(LTruckPlatoons;II[J)I"⟩ ∈ lw_big := x_t6 (List.mem_of_getElem? (i := 77) rfl) rfl
theorem w_6_79 : Cond.methodLink "TruckPlatoonsLaw" 90 ⟨"TruckPlatoons", "orderLoss", "(II)I"⟩ ∈ lw_big := x_t6 (List.mem_of_getElem? (i := 79) rfl) rfl
theorem w_6_80 : Cond.instanceMethod ⟨"TruckPlatoons", "orderLoss", "(II)I"⟩ ∈ lw_big := x_t6 (List.mem_of_getElem? (i := 80) rfl) rfl
theorem w_6_81 : Cond.selects "TruckPlatoons" ⟨"TruckPlatoons", "orderLoss", "(II)I"⟩ ⟨"TruckPlatoons", "orderLoss", "(II)I"⟩ ∈ lw_big := x_t6 (List.mem_of_getElem? (i := 81) rfl) rfl
theorem w_6_82 : Cond.code ⟨"TruckPlatoons", "orderLoss", "(II)I"⟩ prog_1_method_47_code 5 (Option.some FieldType.int) ∈ lw_big := x_t6 (List.mem_of_getElem? (i := 82) rfl) rfl
theorem w_6_83 : Cond.methodLink "TruckPlatoons" 388 ⟨"TruckPlatoons", "checkOrdered", "(I)V"⟩ ∈ lw_big := x_t6 (List.mem_of_getElem? (i := 83) rfl) rfl
theorem w_6_84 : Cond.static ⟨"TruckPlatoons", "checkOrdered", "(I)V"⟩ ∈ lw_big := x_t6 (List.mem_of_getElem? (i := 84) rfl) rfl
theorem w_6_85 : Cond.code ⟨"TruckPlatoons", "checkOrdered", "(I)V"⟩ prog_1_method_71_code 1 (Option.none : Option Jvm.ClassFile.FieldType) ∈ lw_big := x_t6 (List.mem_of_getElem? (i := 85) rfl) rfl
theorem w_6_87 : Cond.methodLink "TruckPlatoons" 391 ⟨"TruckPlatoons$BestOrder", "search", "(II)V"⟩ ∈ lw_big := x_t6 (List.mem_of_getElem? (i := 87) rfl) rfl
theorem w_6_88 : Cond.instanceMethod ⟨"TruckPlatoons$BestOrder", "search", "(II)V"⟩ ∈ lw_big := x_t6 (List.mem_of_getElem? (i := 88) rfl) rfl
theorem w_6_89 : Cond.selects "TruckPlatoons$BestOrder" ⟨"TruckPlatoons$BestOrder", "search", "(II)V"⟩ ⟨"TruckPlatoons$BestOrder", "search", "(II)V"⟩ ∈ lw_big := x_t6 (List.mem_of_getElem? (i := 89) rfl) rfl
theorem w_6_90 : Cond.code ⟨"TruckPlatoons$BestOrder", "search", "(II)V"⟩ prog_2_method_2_code 6 (Option.none : Option Jvm.ClassFile.FieldType) ∈ lw_big := x_t6 (List.mem_of_getElem? (i := 90) rfl) rfl
theorem w_6_91 : Cond.methodLink "TruckPlatoons$BestOrder" 29 ⟨"java/lang/Math", "min", "(II)I"⟩ ∈ lw_big := x_t6 (List.mem_of_getElem? (i := 91) rfl) rfl
theorem w_6_92 : Cond.methodLink "TruckPlatoons$BestOrder" 35 ⟨"TruckPlatoons$BestOrder", "takeMembers", "(I)V"⟩ ∈ lw_big := x_t6 (List.mem_of_getElem? (i := 92) rfl) rfl
theorem w_6_94 : Cond.instanceMethod ⟨"TruckPlatoons$BestOrder", "takeMembers", "(I)V"⟩ ∈ lw_big := x_t6 (List.mem_of_getElem? (i := 94) rfl) rfl
theorem w_6_95 : Cond.code ⟨"TruckPlatoons$BestOrder", "takeMembers", "(I)V"⟩ prog_2_method_3_code 5 (Option.none : Option Jvm.ClassFile.FieldType) ∈ lw_big := x_t6 (List.mem_of_getElem? (i := 95) rfl) rfl
theorem w_6_96 : Cond.methodLink "TruckPlatoons$BestOrder" 39 ⟨"TruckPlatoons$Plan", "valueOfOrder", "([III)I"⟩ ∈ lw_big := x_t6 (List.mem_of_getElem? (i := 96) rfl) rfl
theorem w_6_97 : Cond.instanceMethod ⟨"TruckPlatoons$Plan", "valueOfOrder", "([III)I"⟩ ∈ lw_big := x_t6 (List.mem_of_getElem? (i := 97) rfl) rfl
theorem w_6_98 : Cond.selects "TruckPlatoons$Plan" ⟨"TruckPlatoons$Plan", "valueOfOrder", "([III)I"⟩ ⟨"TruckPlatoons$Plan", "valueOfOrder", "([III)I"⟩ ∈ lw_big := x_t6 (List.mem_of_getElem? (i := 98) rfl) rfl
theorem w_6_99 : Cond.code ⟨"TruckPlatoons$Plan", "valueOfOrder", "([III)I"⟩ prog_8_method_17_code 8 (Option.some FieldType.int) ∈ lw_big := x_t6 (List.mem_of_getElem? (i := 99) rfl) rfl
theorem w_6_100 : Cond.methodLink "TruckPlatoons$BestOrder" 45 ⟨"java/lang/System", "arraycopy", "(Ljava/lang/Object;ILjava/lang/Object;II)V"⟩ ∈ lw_big := x_t6 (List.mem_of_getElem? (i := 100) rfl) rfl
theorem w_6_101 : Cond.methodLink "TruckPlatoons$BestOrder" 51 ⟨"TruckPlatoons$BestOrder", "stepOn", "()Z"⟩ ∈ lw_big := x_t6 (List.mem_of_getElem? (i := 101) rfl) rfl
theorem w_6_103 : Cond.instanceMethod ⟨"TruckPlatoons$BestOrder", "stepOn", "()Z"⟩ ∈ lw_big := x_t6 (List.mem_of_getElem? (i := 103) rfl) rfl
theorem w_6_104 : Cond.code ⟨"TruckPlatoons$BestOrder", "stepOn", "()Z"⟩ prog_2_method_4_code 5 (Option.some FieldType.boolean) ∈ lw_big := x_t6 (List.mem_of_getElem? (i := 104) rfl) rfl
theorem w_6_105 : Cond.methodLink "TruckPlatoons$BestOrder" 58 ⟨"TruckPlatoons$BestOrder", "swap", "(II)V"⟩ ∈ lw_big := x_t6 (List.mem_of_getElem? (i := 105) rfl) rfl
theorem w_6_107 : Cond.instanceMethod ⟨"TruckPlatoons$BestOrder", "swap", "(II)V"⟩ ∈ lw_big := x_t6 (List.mem_of_getElem? (i := 107) rfl) rfl
theorem w_6_108 : Cond.code ⟨"TruckPlatoons$BestOrder", "swap", "(II)V"⟩ prog_2_method_5_code 4 (Option.none : Option Jvm.ClassFile.FieldType) ∈ lw_big := x_t6 (List.mem_of_getElem? (i := 108) rfl) rfl
theorem w_6_109 : Cond.methodLink "TruckPlatoons" 397 ⟨"TruckPlatoons$Plan", "valueOfOrder", "([III)I"⟩ ∈ lw_big := x_t6 (List.mem_of_getElem? (i := 109) rfl) rfl
theorem w_6_110 : Cond.methodLink "TruckPlatoonsLaw" 240 ⟨"TruckPlatoonsLaw", "bestMember", "(LTruckPlatoons;III[J)I"⟩ ∈ lw_big := x_t6 (List.mem_of_getElem? (i := 110) rfl) rfl
theorem w_6_111 : Cond.static ⟨"TruckPlatoonsLaw", "bestMember", "(LTruckPlatoons;III[J)I"⟩ ∈ lw_big := x_t6 (List.mem_of_getElem? (i := 111) rfl) rfl
theorem w_6_113 : Cond.methodLink "TruckPlatoonsLaw" 93 ⟨"TruckPlatoons", "bestMember", "(III)I"⟩ ∈ lw_big := x_t6 (List.mem_of_getElem? (i := 113) rfl) rfl
theorem w_6_114 : Cond.instanceMethod ⟨"TruckPlatoons", "bestMember", "(III)I"⟩ ∈ lw_big := x_t6 (List.mem_of_getElem? (i := 114) rfl) rfl
theorem w_6_115 : Cond.selects "TruckPlatoons" ⟨"TruckPlatoons", "bestMember", "(III)I"⟩ ⟨"TruckPlatoons", "bestMember", "(III)I"⟩ ∈ lw_big := x_t6 (List.mem_of_getElem? (i := 115) rfl) rfl
theorem w_6_116 : Cond.code ⟨"TruckPlatoons", "bestMember", "(III)I"⟩ prog_1_method_48_code 6 (Option.some FieldType.int) ∈ lw_big := x_t6 (List.mem_of_getElem? (i := 116) rfl) rfl
theorem w_6_117 : Cond.methodLink "TruckPlatoonsLaw" 243 ⟨"TruckPlatoonsLaw", "rate", "(LTruckPlatoons;I[D)I"⟩ ∈ lw_big := x_t6 (List.mem_of_getElem? (i := 117) rfl) rfl
theorem w_6_118 : Cond.static ⟨"TruckPlatoonsLaw", "rate", "(LTruckPlatoons;I[D)I"⟩ ∈ lw_big := x_t6 (List.mem_of_getElem? (i := 118) rfl) rfl
theorem w_6_120 : Cond.methodLink "TruckPlatoonsLaw" 96 ⟨"TruckPlatoons", "rate", "(I)F"⟩ ∈ lw_big := x_t6 (List.mem_of_getElem? (i := 120) rfl) rfl
theorem w_6_121 : Cond.instanceMethod ⟨"TruckPlatoons", "rate", "(I)F"⟩ ∈ lw_big := x_t6 (List.mem_of_getElem? (i := 121) rfl) rfl
theorem w_6_122 : Cond.selects "TruckPlatoons" ⟨"TruckPlatoons", "rate", "(I)F"⟩ ⟨"TruckPlatoons", "rate", "(I)F"⟩ ∈ lw_big := x_t6 (List.mem_of_getElem? (i := 122) rfl) rfl
theorem w_6_123 : Cond.code ⟨"TruckPlatoons", "rate", "(I)F"⟩ prog_1_method_49_code 3 (Option.some FieldType.float) ∈ lw_big := x_t6 (List.mem_of_getElem? (i := 123) rfl) rfl
theorem w_6_124 : Cond.methodLink "TruckPlatoonsLaw" 247 ⟨"TruckPlatoonsLaw", "shareBits", "(LTruckPlatoons;[J)I"⟩ ∈ lw_big := x_t6 (List.mem_of_getElem? (i := 124) rfl) rfl
theorem w_6_125 : Cond.static ⟨"TruckPlatoonsLaw", "shareBits", "(LTruckPlatoons;[J)I"⟩ ∈ lw_big := x_t6 (List.mem_of_getElem? (i := 125) rfl) rfl
theorem w_6_127 : Cond.classLink "TruckPlatoonsLaw" 104 "java/lang/ArithmeticException" ∈ lw_big := x_t6 (List.mem_of_getElem? (i := 127) rfl) rfl
theorem w_6_128 : Cond.instantiable "java/lang/ArithmeticException" 6 ∈ lw_big := x_t6 (List.mem_of_getElem? (i := 128) rfl) rfl
theorem w_6_129 : Cond.instanceMethod ⟨"java/lang/ArithmeticException", "<init>", "(Ljava/lang/String;)V"⟩ ∈ lw_big := x_t6 (List.mem_of_getElem? (i := 129) rfl) rfl
theorem w_6_130 : Cond.code ⟨"java/lang/ArithmeticException", "<init>", "(Ljava/lang/String;)V"⟩ prog_14_method_2_code 2 (Option.none : Option Jvm.ClassFile.FieldType) ∈ lw_big := x_t6 (List.mem_of_getElem? (i := 130) rfl) rfl
theorem w_6_131 : Cond.methodLink "java/lang/ArithmeticException" 7 ⟨"java/lang/RuntimeException", "<init>", "(Ljava/lang/String;)V"⟩ ∈ lw_big := x_t6 (List.mem_of_getElem? (i := 131) rfl) rfl
theorem w_6_132 : Cond.lays "java/lang/ArithmeticException" "java/lang/Throwable" "backtrace" "Ljava/lang/Object;" ∈ lw_big := x_t6 (List.mem_of_getElem? (i := 132) rfl) rfl
theorem w_6_133 : Cond.lays "java/lang/ArithmeticException" "java/lang/Throwable" "detailMessage" "Ljava/lang/String;" ∈ lw_big := x_t6 (List.mem_of_getElem? (i := 133) rfl) rfl
theorem w_6_134 : Cond.lays "java/lang/ArithmeticException" "java/lang/Throwable" "cause" "Ljava/lang/Throwable;" ∈ lw_big := x_t6 (List.mem_of_getElem? (i := 134) rfl) rfl
theorem w_6_135 : Cond.lays "java/lang/ArithmeticException" "java/lang/Throwable" "stackTrace" "[Ljava/lang/StackTraceElement;" ∈ lw_big := x_t6 (List.mem_of_getElem? (i := 135) rfl) rfl
theorem w_6_136 : Cond.lays "java/lang/ArithmeticException" "java/lang/Throwable" "depth" "I" ∈ lw_big := x_t6 (List.mem_of_getElem? (i := 136) rfl) rfl
theorem w_6_137 : Cond.lays "java/lang/ArithmeticException" "java/lang/Throwable" "suppressedExceptions" "Ljava/util/List;" ∈ lw_big := x_t6 (List.mem_of_getElem? (i := 137) rfl) rfl
theorem w_6_140 : Cond.selects "java/lang/ArithmeticException" ⟨"java/lang/Throwable", "fillInStackTrace", "(I)Ljava/lang/Throwable;"⟩ ⟨"java/lang/Throwable", "fillInStackTrace", "(I)Ljava/lang/Throwable;"⟩ ∈ lw_big := x_t6 (List.mem_of_getElem? (i := 140) rfl) rfl
theorem w_6_141 : Cond.methodLink "TruckPlatoonsLaw" 100 ⟨"TruckPlatoons", "shareBits", "()I"⟩ ∈ lw_big := x_t6 (List.mem_of_getElem? (i := 141) rfl) rfl
theorem w_6_142 : Cond.instanceMethod ⟨"TruckPlatoons", "shareBits", "()I"⟩ ∈ lw_big := x_t6 (List.mem_of_getElem? (i := 142) rfl) rfl
theorem w_6_143 : Cond.selects "TruckPlatoons" ⟨"TruckPlatoons", "shareBits", "()I"⟩ ⟨"TruckPlatoons", "shareBits", "()I"⟩ ∈ lw_big := x_t6 (List.mem_of_getElem? (i := 143) rfl) rfl
theorem w_6_144 : Cond.code ⟨"TruckPlatoons", "shareBits", "()I"⟩ prog_1_method_50_code 2 (Option.some FieldType.int) ∈ lw_big := x_t6 (List.mem_of_getElem? (i := 144) rfl) rfl
theorem w_6_145 : Cond.methodLink "TruckPlatoons" 404 ⟨"TruckPlatoons$Plan", "allBases", "()I"⟩ ∈ lw_big := x_t6 (List.mem_of_getElem? (i := 145) rfl) rfl
theorem w_6_146 : Cond.instanceMethod ⟨"TruckPlatoons$Plan", "allBases", "()I"⟩ ∈ lw_big := x_t6 (List.mem_of_getElem? (i := 146) rfl) rfl
theorem w_6_147 : Cond.selects "TruckPlatoons$Plan" ⟨"TruckPlatoons$Plan", "allBases", "()I"⟩ ⟨"TruckPlatoons$Plan", "allBases", "()I"⟩ ∈ lw_big := x_t6 (List.mem_of_getElem? (i := 147) rfl) rfl
theorem w_6_148 : Cond.code ⟨"TruckPlatoons$Plan", "allBases", "()I"⟩ prog_8_method_27_code 3 (Option.some FieldType.int) ∈ lw_big := x_t6 (List.mem_of_getElem? (i := 148) rfl) rfl
theorem w_6_149 : Cond.methodLink "TruckPlatoons$Plan" 168 ⟨"TruckPlatoons$Routes", "allStops", "()I"⟩ ∈ lw_big := x_t6 (List.mem_of_getElem? (i := 149) rfl) rfl
theorem w_6_150 : Cond.classLink "TruckPlatoons" 407 "java/lang/ArithmeticException" ∈ lw_big := x_t6 (List.mem_of_getElem? (i := 150) rfl) rfl
theorem w_6_152 : Cond.methodLink "TruckPlatoons" 411 ⟨"java/lang/ArithmeticException", "<init>", "(Ljava/lang/String;)V"⟩ ∈ lw_big := x_t6 (List.mem_of_getElem? (i := 152) rfl) rfl
theorem w_6_153 : Cond.methodLink "TruckPlatoons" 412 ⟨"TruckPlatoons", "floatBits", "(F)I"⟩ ∈ lw_big := x_t6 (List.mem_of_getElem? (i := 153) rfl) rfl
theorem w_6_154 : Cond.static ⟨"TruckPlatoons", "floatBits", "(F)I"⟩ ∈ lw_big := x_t6 (List.mem_of_getElem? (i := 154) rfl) rfl
theorem w_6_155 : Cond.code ⟨"TruckPlatoons", "floatBits", "(F)I"⟩ prog_1_method_51_code 4 (Option.some FieldType.int) ∈ lw_big := x_t6 (List.mem_of_getElem? (i := 155) rfl) rfl
theorem w_6_156 : Cond.constantFloat "TruckPlatoons" 416 (1258291200 : UInt32) ∈ lw_big := x_t6 (List.mem_of_getElem? (i := 156) rfl) rfl
theorem w_6_157 : Cond.methodLink "TruckPlatoonsLaw" 251 ⟨"TruckPlatoonsLaw", "quickest", "(LTruckPlatoons;II[J)I"⟩ ∈ lw_big := x_t6 (List.mem_of_getElem? (i := 157) rfl) rfl
theorem w_6_158 : Cond.static ⟨"TruckPlatoonsLaw", "quickest", "(LTruckPlatoons;II[J)I"⟩ ∈ lw_big := x_t6 (List.mem_of_getElem? (i := 158) rfl) rfl
theorem w_6_160 : Cond.methodLink "TruckPlatoonsLaw" 106 ⟨"TruckPlatoons", "quickest", "(II)I"⟩ ∈ lw_big := x_t6 (List.mem_of_getElem? (i := 160) rfl) rfl
theorem w_6_161 : Cond.instanceMethod ⟨"TruckPlatoons", "quickest", "(II)I"⟩ ∈ lw_big := x_t6 (List.mem_of_getElem? (i := 161) rfl) rfl
theorem w_6_162 : Cond.selects "TruckPlatoons" ⟨"TruckPlatoons", "quickest", "(II)I"⟩ ⟨"TruckPlatoons", "quickest", "(II)I"⟩ ∈ lw_big := x_t6 (List.mem_of_getElem? (i := 162) rfl) rfl
theorem w_6_163 : Cond.code ⟨"TruckPlatoons", "quickest", "(II)I"⟩ prog_1_method_52_code 4 (Option.some FieldType.int) ∈ lw_big := x_t6 (List.mem_of_getElem? (i := 163) rfl) rfl
theorem w_6_164 : Cond.methodLink "TruckPlatoons" 417 ⟨"TruckPlatoons", "reachFurther", "()V"⟩ ∈ lw_big := x_t6 (List.mem_of_getElem? (i := 164) rfl) rfl
theorem w_6_166 : Cond.instanceMethod ⟨"TruckPlatoons", "reachFurther", "()V"⟩ ∈ lw_big := x_t6 (List.mem_of_getElem? (i := 166) rfl) rfl
theorem w_6_167 : Cond.code ⟨"TruckPlatoons", "reachFurther", "()V"⟩ prog_1_method_53_code 5 (Option.none : Option Jvm.ClassFile.FieldType) ∈ lw_big := x_t6 (List.mem_of_getElem? (i := 167) rfl) rfl
theorem w_6_168 : Cond.methodLink "TruckPlatoonsLaw" 254 ⟨"TruckPlatoonsLaw", "write", "(LTruckPlatoons;I[J)I"⟩ ∈ lw_big := x_t6 (List.mem_of_getElem? (i := 168) rfl) rfl
theorem w_6_169 : Cond.static ⟨"TruckPlatoonsLaw", "write", "(LTruckPlatoons;I[J)I"⟩ ∈ lw_big := x_t6 (List.mem_of_getElem? (i := 169) rfl) rfl
theorem w_6_171 : Cond.methodLink "TruckPlatoonsLaw" 109 ⟨"TruckPlatoons", "write", "(I)I"⟩ ∈ lw_big := x_t6 (List.mem_of_getElem? (i := 171) rfl) rfl
theorem w_6_172 : Cond.instanceMethod ⟨"TruckPlatoons", "write", "(I)I"⟩ ∈ lw_big := x_t6 (List.mem_of_getElem? (i := 172) rfl) rfl
theorem w_6_173 : Cond.selects "TruckPlatoons" ⟨"TruckPlatoons", "write", "(I)I"⟩ ⟨"TruckPlatoons", "write", "(I)I"⟩ ∈ lw_big := x_t6 (List.mem_of_getElem? (i := 173) rfl) rfl
theorem w_6_174 : Cond.code ⟨"TruckPlatoons", "write", "(I)I"⟩ prog_1_method_54_code 4 (Option.some FieldType.int) ∈ lw_big := x_t6 (List.mem_of_getElem? (i := 174) rfl) rfl
theorem w_6_175 : Cond.methodLink "TruckPlatoons" 421 ⟨"TruckPlatoons$Output", "put", "(I)V"⟩ ∈ lw_big := x_t6 (List.mem_of_getElem? (i := 175) rfl) rfl
theorem w_6_176 : Cond.instanceMethod ⟨"TruckPlatoons$Output", "put", "(I)V"⟩ ∈ lw_big := x_t6 (List.mem_of_getElem? (i := 176) rfl) rfl
theorem w_6_177 : Cond.selects "TruckPlatoons$Output" ⟨"TruckPlatoons$Output", "put", "(I)V"⟩ ⟨"TruckPlatoons$Output", "put", "(I)V"⟩ ∈ lw_big := x_t6 (List.mem_of_getElem? (i := 177) rfl) rfl
theorem w_6_178 : Cond.code ⟨"TruckPlatoons$Output", "put", "(I)V"⟩ prog_7_method_2_code 2 (Option.none : Option Jvm.ClassFile.FieldType) ∈ lw_big := x_t6 (List.mem_of_getElem? (i := 178) rfl) rfl
theorem w_6_179 : Cond.methodLink "TruckPlatoons" 424 ⟨"TruckPlatoons$Output", "putNumber", "(I)V"⟩ ∈ lw_big := x_t6 (List.mem_of_getElem? (i := 179) rfl) rfl
theorem w_6_180 : Cond.instanceMethod ⟨"TruckPlatoons$Output", "putNumber", "(I)V"⟩ ∈ lw_big := x_t6 (List.mem_of_getElem? (i := 180) rfl) rfl
theorem w_6_181 : Cond.selects "TruckPlatoons$Output" ⟨"TruckPlatoons$Output", "putNumber", "(I)V"⟩ ⟨"TruckPlatoons$Output", "putNumber", "(I)V"⟩ ∈ lw_big := x_t6 (List.mem_of_getElem? (i := 181) rfl) rfl
theorem w_6_182 : Cond.code ⟨"TruckPlatoons$Output", "putNumber", "(I)V"⟩ prog_7_method_3_code 3 (Option.none : Option Jvm.ClassFile.FieldType) ∈ lw_big := x_t6 (List.mem_of_getElem? (i := 182) rfl) rfl
theorem w_6_183 : Cond.methodLink "TruckPlatoons$Output" 19 ⟨"TruckPlatoons$Output", "put", "(I)V"⟩ ∈ lw_big := x_t6 (List.mem_of_getElem? (i := 183) rfl) rfl
theorem w_6_184 : Cond.classLink "TruckPlatoonsLaw" 113 "TruckPlatoonsModel" ∈ lw_big := x_t6 (List.mem_of_getElem? (i := 184) rfl) rfl
theorem w_6_185 : Cond.instantiable "TruckPlatoonsModel" 41 ∈ lw_big := x_t6 (List.mem_of_getElem? (i := 185) rfl) rfl
theorem w_6_186 : Cond.methodLink "TruckPlatoonsLaw" 115 ⟨"TruckPlatoonsModel", "<init>", "()V"⟩ ∈ lw_big := x_t6 (List.mem_of_getElem? (i := 186) rfl) rfl
theorem w_6_187 : Cond.instanceMethod ⟨"TruckPlatoonsModel", "<init>", "()V"⟩ ∈ lw_big := x_t6 (List.mem_of_getElem? (i := 187) rfl) rfl
theorem w_6_188 : Cond.code ⟨"TruckPlatoonsModel", "<init>", "()V"⟩ prog_13_method_1_code 1 (Option.none : Option Jvm.ClassFile.FieldType) ∈ lw_big := x_t6 (List.mem_of_getElem? (i := 188) rfl) rfl
theorem w_6_189 : Cond.methodLink "TruckPlatoonsModel" 3 ⟨"java/lang/Object", "<init>", "()V"⟩ ∈ lw_big := x_t6 (List.mem_of_getElem? (i := 189) rfl) rfl
theorem w_6_190 : Cond.fieldLink "TruckPlatoonsModel" 9 "TruckPlatoonsModel" "plans" "[I" ∈ lw_big := x_t6 (List.mem_of_getElem? (i := 190) rfl) rfl
theorem w_6_191 : Cond.fieldLink "TruckPlatoonsModel" 13 "TruckPlatoonsModel" "hasSnapshot" "[Z" ∈ lw_big := x_t6 (List.mem_of_getElem? (i := 191) rfl) rfl
theorem w_6_192 : Cond.fieldLink "TruckPlatoonsModel" 88 "TruckPlatoonsModel" "editFirst" "I" ∈ lw_big := x_t6 (List.mem_of_getElem? (i := 192) rfl) rfl
theorem w_6_193 : Cond.fieldLink "TruckPlatoonsModel" 85 "TruckPlatoonsModel" "editMany" "I" ∈ lw_big := x_t6 (List.mem_of_getElem? (i := 193) rfl) rfl
theorem w_6_194 : Cond.fieldLink "TruckPlatoonsModel" 17 "TruckPlatoonsModel" "net" "[I" ∈ lw_big := x_t6 (List.mem_of_getElem? (i := 194) rfl) rfl
theorem w_6_195 : Cond.fieldLink "TruckPlatoonsModel" 82 "TruckPlatoonsModel" "thrown" "I" ∈ lw_big := x_t6 (List.mem_of_getElem? (i := 195) rfl) rfl
theorem w_6_196 : Cond.fieldLink "TruckPlatoonsModel" 20 "TruckPlatoonsModel" "enter" "[I" ∈ lw_big := x_t6 (List.mem_of_getElem? (i := 196) rfl) rfl
theorem w_6_197 : Cond.fieldLink "TruckPlatoonsModel" 23 "TruckPlatoonsModel" "leave" "[I" ∈ lw_big := x_t6 (List.mem_of_getElem? (i := 197) rfl) rfl
theorem w_6_198 : Cond.fieldLink "TruckPlatoonsModel" 26 "TruckPlatoonsModel" "mate" "[I" ∈ lw_big := x_t6 (List.mem_of_getElem? (i := 198) rfl) rfl
theorem w_6_199 : Cond.fieldLink "TruckPlatoonsModel" 29 "TruckPlatoonsModel" "together" "[I" ∈ lw_big := x_t6 (List.mem_of_getElem? (i := 199) rfl) rfl
theorem w_6_200 : Cond.fieldLink "TruckPlatoonsModel" 32 "TruckPlatoonsModel" "keyOf" "[I" ∈ lw_big := x_t6 (List.mem_of_getElem? (i := 200) rfl) rfl
theorem w_6_201 : Cond.fieldLink "TruckPlatoonsModel" 35 "TruckPlatoonsModel" "positionOf" "[I" ∈ lw_big := x_t6 (List.mem_of_getElem? (i := 201) rfl) rfl
theorem w_6_202 : Cond.fieldLink "TruckPlatoonsModel" 38 "TruckPlatoonsModel" "distanceOf" "[I" ∈ lw_big := x_t6 (List.mem_of_getElem? (i := 202) rfl) rfl
theorem w_6_203 : Cond.fieldLink "TruckPlatoonsModel" 41 "TruckPlatoonsModel" "savedOf" "[I" ∈ lw_big := x_t6 (List.mem_of_getElem? (i := 203) rfl) rfl
theorem w_6_204 : Cond.fieldLink "TruckPlatoonsModel" 44 "TruckPlatoonsModel" "closesUp" "[Z" ∈ lw_big := x_t6 (List.mem_of_getElem? (i := 204) rfl) rfl
theorem w_6_205 : Cond.fieldLink "TruckPlatoonsModel" 47 "TruckPlatoonsModel" "order" "[I" ∈ lw_big := x_t6 (List.mem_of_getElem? (i := 205) rfl) rfl
theorem w_6_206 : Cond.fieldLink "TruckPlatoonsModel" 50 "TruckPlatoonsModel" "orderPlace" "[I" ∈ lw_big := x_t6 (List.mem_of_getElem? (i := 206) rfl) rfl
theorem w_6_207 : Cond.fieldLink "TruckPlatoonsModel" 223 "TruckPlatoonsModel" "leader" "I" ∈ lw_big := x_t6 (List.mem_of_getElem? (i := 207) rfl) rfl
theorem w_6_208 : Cond.fieldLink "TruckPlatoonsModel" 226 "TruckPlatoonsModel" "leaderPlace" "I" ∈ lw_big := x_t6 (List.mem_of_getElem? (i := 208) rfl) rfl
theorem w_6_209 : Cond.fieldLink "TruckPlatoonsModel" 264 "TruckPlatoonsModel" "runPlace" "I" ∈ lw_big := x_t6 (List.mem_of_getElem? (i := 209) rfl) rfl
theorem w_6_210 : Cond.fieldLink "TruckPlatoonsModel" 267 "TruckPlatoonsModel" "runOther" "I" ∈ lw_big := x_t6 (List.mem_of_getElem? (i := 210) rfl) rfl
theorem w_6_211 : Cond.fieldLink "TruckPlatoonsModel" 273 "TruckPlatoonsModel" "runMany" "I" ∈ lw_big := x_t6 (List.mem_of_getElem? (i := 211) rfl) rfl
theorem w_6_212 : Cond.fieldLink "TruckPlatoonsModel" 53 "TruckPlatoonsModel" "byTruck" "[I" ∈ lw_big := x_t6 (List.mem_of_getElem? (i := 212) rfl) rfl
theorem w_6_213 : Cond.fieldLink "TruckPlatoonsModel" 56 "TruckPlatoonsModel" "byTruckPlace" "[I" ∈ lw_big := x_t6 (List.mem_of_getElem? (i := 213) rfl) rfl
theorem w_6_214 : Cond.fieldLink "TruckPlatoonsModel" 59 "TruckPlatoonsModel" "turn" "[I" ∈ lw_big := x_t6 (List.mem_of_getElem? (i := 214) rfl) rfl
theorem w_6_215 : Cond.fieldLink "TruckPlatoonsModel" 62 "TruckPlatoonsModel" "bestOrder" "[I" ∈ lw_big := x_t6 (List.mem_of_getElem? (i := 215) rfl) rfl
theorem w_6_216 : Cond.fieldLink "TruckPlatoonsModel" 349 "TruckPlatoonsModel" "bestWorth" "I" ∈ lw_big := x_t6 (List.mem_of_getElem? (i := 216) rfl) rfl
theorem w_6_217 : Cond.fieldLink "TruckPlatoonsModel" 65 "TruckPlatoonsModel" "wayTo" "[I" ∈ lw_big := x_t6 (List.mem_of_getElem? (i := 217) rfl) rfl
theorem w_6_218 : Cond.fieldLink "TruckPlatoonsModel" 68 "TruckPlatoonsModel" "output" "[I" ∈ lw_big := x_t6 (List.mem_of_getElem? (i := 218) rfl) rfl
theorem w_6_219 : Cond.fieldLink "TruckPlatoonsModel" 374 "TruckPlatoonsModel" "outputLength" "I" ∈ lw_big := x_t6 (List.mem_of_getElem? (i := 219) rfl) rfl
theorem w_6_220 : Cond.fieldLink "TruckPlatoonsModel" 71 "TruckPlatoonsModel" "input" "[B" ∈ lw_big := x_t6 (List.mem_of_getElem? (i := 220) rfl) rfl
theorem w_6_221 : Cond.fieldLink "TruckPlatoonsModel" 383 "TruckPlatoonsModel" "inputLength" "I" ∈ lw_big := x_t6 (List.mem_of_getElem? (i := 221) rfl) rfl
theorem w_6_222 : Cond.fieldLink "TruckPlatoonsModel" 400 "TruckPlatoonsModel" "next" "I" ∈ lw_big := x_t6 (List.mem_of_getElem? (i := 222) rfl) rfl
theorem w_6_223 : Cond.fieldLink "TruckPlatoonsModel" 389 "TruckPlatoonsModel" "errorCode" "I" ∈ lw_big := x_t6 (List.mem_of_getElem? (i := 223) rfl) rfl
theorem w_6_224 : Cond.fieldLink "TruckPlatoonsModel" 75 "TruckPlatoonsModel" "errorPosition" "I" ∈ lw_big := x_t6 (List.mem_of_getElem? (i := 224) rfl) rfl
theorem w_6_225 : Cond.fieldLink "TruckPlatoonsModel" 419 "TruckPlatoonsModel" "kind" "I" ∈ lw_big := x_t6 (List.mem_of_getElem? (i := 225) rfl) rfl
theorem w_6_226 : Cond.fieldLink "TruckPlatoonsModel" 406 "TruckPlatoonsModel" "start" "I" ∈ lw_big := x_t6 (List.mem_of_getElem? (i := 226) rfl) rfl
theorem w_6_227 : Cond.fieldLink "TruckPlatoonsModel" 434 "TruckPlatoonsModel" "number" "I" ∈ lw_big := x_t6 (List.mem_of_getElem? (i := 227) rfl) rfl
theorem w_6_228 : Cond.fieldLink "TruckPlatoonsModel" 409 "TruckPlatoonsModel" "value" "J" ∈ lw_big := x_t6 (List.mem_of_getElem? (i := 228) rfl) rfl
theorem w_6_229 : Cond.fieldLink "TruckPlatoonsModel" 79 "TruckPlatoonsModel" "commands" "[I" ∈ lw_big := x_t6 (List.mem_of_getElem? (i := 229) rfl) rfl
theorem w_6_230 : Cond.fieldLink "TruckPlatoonsModel" 473 "TruckPlatoonsModel" "commandMany" "I" ∈ lw_big := x_t6 (List.mem_of_getElem? (i := 230) rfl) rfl
theorem w_6_231 : Cond.laysFinal "TruckPlatoonsModel" "TruckPlatoonsModel" "plans" "[I" ∈ lw_big := x_t6 (List.mem_of_getElem? (i := 231) rfl) rfl
theorem w_6_233 : Cond.laysFinal "TruckPlatoonsModel" "TruckPlatoonsModel" "hasSnapshot" "[Z" ∈ lw_big := x_t6 (List.mem_of_getElem? (i := 233) rfl) rfl
theorem w_6_235 : Cond.lays "TruckPlatoonsModel" "TruckPlatoonsModel" "editFirst" "I" ∈ lw_big := x_t6 (List.mem_of_getElem? (i := 235) rfl) rfl
theorem w_6_237 : Cond.lays "TruckPlatoonsModel" "TruckPlatoonsModel" "editMany" "I" ∈ lw_big := x_t6 (List.mem_of_getElem? (i := 237) rfl) rfl
theorem w_6_239 : Cond.laysFinal "TruckPlatoonsModel" "TruckPlatoonsModel" "net" "[I" ∈ lw_big := x_t6 (List.mem_of_getElem? (i := 239) rfl) rfl
theorem w_7_1 : Cond.lays "TruckPlatoonsModel" "TruckPlatoonsModel" "thrown" "I" ∈ lw_big := x_t7 (List.mem_of_getElem? (i := 1) rfl) rfl
theorem w_7_3 : Cond.laysFinal "TruckPlatoonsModel" "TruckPlatoonsModel" "enter" "[I" ∈ lw_big := x_t7 (List.mem_of_getElem? (i := 3) rfl) rfl
theorem w_7_5 : Cond.laysFinal "TruckPlatoonsModel" "TruckPlatoonsModel" "leave" "[I" ∈ lw_big := x_t7 (List.mem_of_getElem? (i := 5) rfl) rfl
theorem w_7_7 : Cond.laysFinal "TruckPlatoonsModel" "TruckPlatoonsModel" "mate" "[I" ∈ lw_big := x_t7 (List.mem_of_getElem? (i := 7) rfl) rfl
theorem w_7_9 : Cond.laysFinal "TruckPlatoonsModel" "TruckPlatoonsModel" "together" "[I" ∈ lw_big := x_t7 (List.mem_of_getElem? (i := 9) rfl) rfl
theorem w_7_11 : Cond.laysFinal "TruckPlatoonsModel" "TruckPlatoonsModel" "keyOf" "[I" ∈ lw_big := x_t7 (List.mem_of_getElem? (i := 11) rfl) rfl
theorem w_7_13 : Cond.laysFinal "TruckPlatoonsModel" "TruckPlatoonsModel" "positionOf" "[I" ∈ lw_big := x_t7 (List.mem_of_getElem? (i := 13) rfl) rfl
theorem w_7_15 : Cond.laysFinal "TruckPlatoonsModel" "TruckPlatoonsModel" "distanceOf" "[I" ∈ lw_big := x_t7 (List.mem_of_getElem? (i := 15) rfl) rfl
theorem w_7_17 : Cond.laysFinal "TruckPlatoonsModel" "TruckPlatoonsModel" "savedOf" "[I" ∈ lw_big := x_t7 (List.mem_of_getElem? (i := 17) rfl) rfl
theorem w_7_19 : Cond.laysFinal "TruckPlatoonsModel" "TruckPlatoonsModel" "closesUp" "[Z" ∈ lw_big := x_t7 (List.mem_of_getElem? (i := 19) rfl) rfl
theorem w_7_21 : Cond.laysFinal "TruckPlatoonsModel" "TruckPlatoonsModel" "order" "[I" ∈ lw_big := x_t7 (List.mem_of_getElem? (i := 21) rfl) rfl
theorem w_7_23 : Cond.laysFinal "TruckPlatoonsModel" "TruckPlatoonsModel" "orderPlace" "[I" ∈ lw_big := x_t7 (List.mem_of_getElem? (i := 23) rfl) rfl
theorem w_7_25 : Cond.lays "TruckPlatoonsModel" "TruckPlatoonsModel" "leader" "I" ∈ lw_big := x_t7 (List.mem_of_getElem? (i := 25) rfl) rfl
theorem w_7_27 : Cond.lays "TruckPlatoonsModel" "TruckPlatoonsModel" "leaderPlace" "I" ∈ lw_big := x_t7 (List.mem_of_getElem? (i := 27) rfl) rfl
theorem w_7_29 : Cond.lays "TruckPlatoonsModel" "TruckPlatoonsModel" "runPlace" "I" ∈ lw_big := x_t7 (List.mem_of_getElem? (i := 29) rfl) rfl
theorem w_7_31 : Cond.lays "TruckPlatoonsModel" "TruckPlatoonsModel" "runOther" "I" ∈ lw_big := x_t7 (List.mem_of_getElem? (i := 31) rfl) rfl
theorem w_7_33 : Cond.lays "TruckPlatoonsModel" "TruckPlatoonsModel" "runMany" "I" ∈ lw_big := x_t7 (List.mem_of_getElem? (i := 33) rfl) rfl
theorem w_7_35 : Cond.laysFinal "TruckPlatoonsModel" "TruckPlatoonsModel" "byTruck" "[I" ∈ lw_big := x_t7 (List.mem_of_getElem? (i := 35) rfl) rfl
theorem w_7_37 : Cond.laysFinal "TruckPlatoonsModel" "TruckPlatoonsModel" "byTruckPlace" "[I" ∈ lw_big := x_t7 (List.mem_of_getElem? (i := 37) rfl) rfl
theorem w_7_39 : Cond.laysFinal "TruckPlatoonsModel" "TruckPlatoonsModel" "turn" "[I" ∈ lw_big := x_t7 (List.mem_of_getElem? (i := 39) rfl) rfl
theorem w_7_41 : Cond.laysFinal "TruckPlatoonsModel" "TruckPlatoonsModel" "bestOrder" "[I" ∈ lw_big := x_t7 (List.mem_of_getElem? (i := 41) rfl) rfl
theorem w_7_43 : Cond.lays "TruckPlatoonsModel" "TruckPlatoonsModel" "bestWorth" "I" ∈ lw_big := x_t7 (List.mem_of_getElem? (i := 43) rfl) rfl
theorem w_7_45 : Cond.laysFinal "TruckPlatoonsModel" "TruckPlatoonsModel" "wayTo" "[I" ∈ lw_big := x_t7 (List.mem_of_getElem? (i := 45) rfl) rfl
theorem w_7_47 : Cond.laysFinal "TruckPlatoonsModel" "TruckPlatoonsModel" "output" "[I" ∈ lw_big := x_t7 (List.mem_of_getElem? (i := 47) rfl) rfl
theorem w_7_49 : Cond.lays "TruckPlatoonsModel" "TruckPlatoonsModel" "outputLength" "I" ∈ lw_big := x_t7 (List.mem_of_getElem? (i := 49) rfl) rfl
theorem w_7_51 : Cond.laysFinal "TruckPlatoonsModel" "TruckPlatoonsModel" "input" "[B" ∈ lw_big := x_t7 (List.mem_of_getElem? (i := 51) rfl) rfl
theorem w_7_53 : Cond.lays "TruckPlatoonsModel" "TruckPlatoonsModel" "inputLength" "I" ∈ lw_big := x_t7 (List.mem_of_getElem? (i := 53) rfl) rfl
theorem w_7_55 : Cond.lays "TruckPlatoonsModel" "TruckPlatoonsModel" "next" "I" ∈ lw_big := x_t7 (List.mem_of_getElem? (i := 55) rfl) rfl
theorem w_7_57 : Cond.lays "TruckPlatoonsModel" "TruckPlatoonsModel" "errorCode" "I" ∈ lw_big := x_t7 (List.mem_of_getElem? (i := 57) rfl) rfl
theorem w_7_59 : Cond.lays "TruckPlatoonsModel" "TruckPlatoonsModel" "errorPosition" "I" ∈ lw_big := x_t7 (List.mem_of_getElem? (i := 59) rfl) rfl
theorem w_7_61 : Cond.lays "TruckPlatoonsModel" "TruckPlatoonsModel" "kind" "I" ∈ lw_big := x_t7 (List.mem_of_getElem? (i := 61) rfl) rfl
theorem w_7_63 : Cond.lays "TruckPlatoonsModel" "TruckPlatoonsModel" "start" "I" ∈ lw_big := x_t7 (List.mem_of_getElem? (i := 63) rfl) rfl
theorem w_7_65 : Cond.lays "TruckPlatoonsModel" "TruckPlatoonsModel" "number" "I" ∈ lw_big := x_t7 (List.mem_of_getElem? (i := 65) rfl) rfl
theorem w_7_67 : Cond.lays "TruckPlatoonsModel" "TruckPlatoonsModel" "value" "J" ∈ lw_big := x_t7 (List.mem_of_getElem? (i := 67) rfl) rfl
theorem w_7_69 : Cond.laysFinal "TruckPlatoonsModel" "TruckPlatoonsModel" "commands" "[I" ∈ lw_big := x_t7 (List.mem_of_getElem? (i := 69) rfl) rfl
theorem w_7_71 : Cond.lays "TruckPlatoonsModel" "TruckPlatoonsModel" "commandMany" "I" ∈ lw_big := x_t7 (List.mem_of_getElem? (i := 71) rfl) rfl
theorem w_7_74 : Cond.methodLink "TruckPlatoonsLaw" 147 ⟨"TruckPlatoonsModel", "thrown", "()I"⟩ ∈ lw_big := x_t7 (List.mem_of_getElem? (i := 74) rfl) rfl
theorem w_7_75 : Cond.instanceMethod ⟨"TruckPlatoonsModel", "thrown", "()I"⟩ ∈ lw_big := x_t7 (List.mem_of_getElem? (i := 75) rfl) rfl
theorem w_7_76 : Cond.selects "TruckPlatoonsModel" ⟨"TruckPlatoonsModel", "thrown", "()I"⟩ ⟨"TruckPlatoonsModel", "thrown", "()I"⟩ ∈ lw_big := x_t7 (List.mem_of_getElem? (i := 76) rfl) rfl
theorem w_7_77 : Cond.code ⟨"TruckPlatoonsModel", "thrown", "()I"⟩ prog_13_method_2_code 1 (Option.some FieldType.int) ∈ lw_big := x_t7 (List.mem_of_getElem? (i := 77) rfl) rfl
theorem w_7_78 : Cond.methodLink "TruckPlatoonsLaw" 268 ⟨"TruckPlatoonsModel", "undo", "()I"⟩ ∈ lw_big := x_t7 (List.mem_of_getElem? (i := 78) rfl) rfl
theorem w_7_79 : Cond.instanceMethod ⟨"TruckPlatoonsModel", "undo", "()I"⟩ ∈ lw_big := x_t7 (List.mem_of_getElem? (i := 79) rfl) rfl
theorem w_7_80 : Cond.selects "TruckPlatoonsModel" ⟨"TruckPlatoonsModel", "undo", "()I"⟩ ⟨"TruckPlatoonsModel", "undo", "()I"⟩ ∈ lw_big := x_t7 (List.mem_of_getElem? (i := 80) rfl) rfl
theorem w_7_81 : Cond.code ⟨"TruckPlatoonsModel", "undo", "()I"⟩ prog_13_method_9_code 1 (Option.some FieldType.int) ∈ lw_big := x_t7 (List.mem_of_getElem? (i := 81) rfl) rfl
theorem w_7_82 : Cond.methodLink "TruckPlatoonsModel" 91 ⟨"TruckPlatoonsModel", "copyPlan", "(II)V"⟩ ∈ lw_big := x_t7 (List.mem_of_getElem? (i := 82) rfl) rfl
theorem w_7_84 : Cond.instanceMethod ⟨"TruckPlatoonsModel", "copyPlan", "(II)V"⟩ ∈ lw_big := x_t7 (List.mem_of_getElem? (i := 84) rfl) rfl
theorem w_7_85 : Cond.code ⟨"TruckPlatoonsModel", "copyPlan", "(II)V"⟩ prog_13_method_7_code 4 (Option.none : Option Jvm.ClassFile.FieldType) ∈ lw_big := x_t7 (List.mem_of_getElem? (i := 85) rfl) rfl
theorem w_7_86 : Cond.methodLink "TruckPlatoonsLaw" 277 ⟨"TruckPlatoonsModel", "saveSnapshot", "(I)Z"⟩ ∈ lw_big := x_t7 (List.mem_of_getElem? (i := 86) rfl) rfl
theorem w_7_87 : Cond.instanceMethod ⟨"TruckPlatoonsModel", "saveSnapshot", "(I)Z"⟩ ∈ lw_big := x_t7 (List.mem_of_getElem? (i := 87) rfl) rfl
theorem w_7_88 : Cond.selects "TruckPlatoonsModel" ⟨"TruckPlatoonsModel", "saveSnapshot", "(I)Z"⟩ ⟨"TruckPlatoonsModel", "saveSnapshot", "(I)Z"⟩ ∈ lw_big := x_t7 (List.mem_of_getElem? (i := 88) rfl) rfl
theorem w_7_89 : Cond.code ⟨"TruckPlatoonsModel", "saveSnapshot", "(I)Z"⟩ prog_13_method_10_code 2 (Option.some FieldType.boolean) ∈ lw_big := x_t7 (List.mem_of_getElem? (i := 89) rfl) rfl
theorem w_7_90 : Cond.methodLink "TruckPlatoonsModel" 95 ⟨"TruckPlatoonsModel", "inRange", "(JJJ)Z"⟩ ∈ lw_big := x_t7 (List.mem_of_getElem? (i := 90) rfl) rfl
theorem w_7_91 : Cond.static ⟨"TruckPlatoonsModel", "inRange", "(JJJ)Z"⟩ ∈ lw_big := x_t7 (List.mem_of_getElem? (i := 91) rfl) rfl
theorem w_7_92 : Cond.code ⟨"TruckPlatoonsModel", "inRange", "(JJJ)Z"⟩ prog_13_method_4_code 6 (Option.some FieldType.boolean) ∈ lw_big := x_t7 (List.mem_of_getElem? (i := 92) rfl) rfl
theorem w_7_93 : Cond.methodLink "TruckPlatoonsLaw" 281 ⟨"TruckPlatoonsModel", "restoreSnapshot", "(I)Z"⟩ ∈ lw_big := x_t7 (List.mem_of_getElem? (i := 93) rfl) rfl
theorem w_7_94 : Cond.instanceMethod ⟨"TruckPlatoonsModel", "restoreSnapshot", "(I)Z"⟩ ∈ lw_big := x_t7 (List.mem_of_getElem? (i := 94) rfl) rfl
theorem w_7_95 : Cond.selects "TruckPlatoonsModel" ⟨"TruckPlatoonsModel", "restoreSnapshot", "(I)Z"⟩ ⟨"TruckPlatoonsModel", "restoreSnapshot", "(I)Z"⟩ ∈ lw_big := x_t7 (List.mem_of_getElem? (i := 95) rfl) rfl
theorem w_7_96 : Cond.code ⟨"TruckPlatoonsModel", "restoreSnapshot", "(I)Z"⟩ prog_13_method_11_code 2 (Option.some FieldType.boolean) ∈ lw_big := x_t7 (List.mem_of_getElem? (i := 96) rfl) rfl
theorem w_7_97 : Cond.methodLink "TruckPlatoonsLaw" 140 ⟨"TruckPlatoonsModel", "count", "(I)I"⟩ ∈ lw_big := x_t7 (List.mem_of_getElem? (i := 97) rfl) rfl
theorem w_7_98 : Cond.instanceMethod ⟨"TruckPlatoonsModel", "count", "(I)I"⟩ ∈ lw_big := x_t7 (List.mem_of_getElem? (i := 98) rfl) rfl
theorem w_7_99 : Cond.selects "TruckPlatoonsModel" ⟨"TruckPlatoonsModel", "count", "(I)I"⟩ ⟨"TruckPlatoonsModel", "count", "(I)I"⟩ ∈ lw_big := x_t7 (List.mem_of_getElem? (i := 99) rfl) rfl
theorem w_7_100 : Cond.code ⟨"TruckPlatoonsModel", "count", "(I)I"⟩ prog_13_method_52_code 2 (Option.some FieldType.int) ∈ lw_big := x_t7 (List.mem_of_getElem? (i := 100) rfl) rfl
theorem w_7_101 : Cond.methodLink "TruckPlatoonsModel" 200 ⟨"TruckPlatoonsModel", "lay", "()V"⟩ ∈ lw_big := x_t7 (List.mem_of_getElem? (i := 101) rfl) rfl
theorem w_7_103 : Cond.instanceMethod ⟨"TruckPlatoonsModel", "lay", "()V"⟩ ∈ lw_big := x_t7 (List.mem_of_getElem? (i := 103) rfl) rfl
theorem w_7_104 : Cond.code ⟨"TruckPlatoonsModel", "lay", "()V"⟩ prog_13_method_41_code 3 (Option.none : Option Jvm.ClassFile.FieldType) ∈ lw_big := x_t7 (List.mem_of_getElem? (i := 104) rfl) rfl
theorem w_7_105 : Cond.methodLink "TruckPlatoonsModel" 172 ⟨"TruckPlatoonsModel", "layTimes", "(I)V"⟩ ∈ lw_big := x_t7 (List.mem_of_getElem? (i := 105) rfl) rfl
theorem w_7_107 : Cond.instanceMethod ⟨"TruckPlatoonsModel", "layTimes", "(I)V"⟩ ∈ lw_big := x_t7 (List.mem_of_getElem? (i := 107) rfl) rfl
theorem w_7_108 : Cond.code ⟨"TruckPlatoonsModel", "layTimes", "(I)V"⟩ prog_13_method_26_code 4 (Option.none : Option Jvm.ClassFile.FieldType) ∈ lw_big := x_t7 (List.mem_of_getElem? (i := 108) rfl) rfl
theorem w_7_109 : Cond.methodLink "TruckPlatoonsModel" 107 ⟨"TruckPlatoonsModel", "placesOf", "(I)I"⟩ ∈ lw_big := x_t7 (List.mem_of_getElem? (i := 109) rfl) rfl
theorem w_7_111 : Cond.instanceMethod ⟨"TruckPlatoonsModel", "placesOf", "(I)I"⟩ ∈ lw_big := x_t7 (List.mem_of_getElem? (i := 111) rfl) rfl
theorem w_7_112 : Cond.code ⟨"TruckPlatoonsModel", "placesOf", "(I)I"⟩ prog_13_method_14_code 2 (Option.some FieldType.int) ∈ lw_big := x_t7 (List.mem_of_getElem? (i := 112) rfl) rfl
theorem w_7_113 : Cond.methodLink "TruckPlatoonsModel" 99 ⟨"TruckPlatoonsModel", "ofTruck", "(II)I"⟩ ∈ lw_big := x_t7 (List.mem_of_getElem? (i := 113) rfl) rfl
theorem w_7_115 : Cond.instanceMethod ⟨"TruckPlatoonsModel", "ofTruck", "(II)I"⟩ ∈ lw_big := x_t7 (List.mem_of_getElem? (i := 115) rfl) rfl
theorem w_7_116 : Cond.code ⟨"TruckPlatoonsModel", "ofTruck", "(II)I"⟩ prog_13_method_13_code 3 (Option.some FieldType.int) ∈ lw_big := x_t7 (List.mem_of_getElem? (i := 116) rfl) rfl
theorem w_7_117 : Cond.methodLink "TruckPlatoonsModel" 111 ⟨"TruckPlatoonsModel", "spot", "(II)I"⟩ ∈ lw_big := x_t7 (List.mem_of_getElem? (i := 117) rfl) rfl
theorem w_7_118 : Cond.static ⟨"TruckPlatoonsModel", "spot", "(II)I"⟩ ∈ lw_big := x_t7 (List.mem_of_getElem? (i := 118) rfl) rfl
theorem w_7_119 : Cond.code ⟨"TruckPlatoonsModel", "spot", "(II)I"⟩ prog_13_method_19_code 2 (Option.some FieldType.int) ∈ lw_big := x_t7 (List.mem_of_getElem? (i := 119) rfl) rfl
theorem w_7_120 : Cond.methodLink "TruckPlatoonsModel" 123 ⟨"TruckPlatoonsModel", "waitAt", "(II)I"⟩ ∈ lw_big := x_t7 (List.mem_of_getElem? (i := 120) rfl) rfl
theorem w_7_122 : Cond.instanceMethod ⟨"TruckPlatoonsModel", "waitAt", "(II)I"⟩ ∈ lw_big := x_t7 (List.mem_of_getElem? (i := 122) rfl) rfl
theorem w_7_123 : Cond.code ⟨"TruckPlatoonsModel", "waitAt", "(II)I"⟩ prog_13_method_20_code 3 (Option.some FieldType.int) ∈ lw_big := x_t7 (List.mem_of_getElem? (i := 123) rfl) rfl
theorem w_7_124 : Cond.methodLink "TruckPlatoonsModel" 114 ⟨"TruckPlatoonsModel", "roadAt", "(II)I"⟩ ∈ lw_big := x_t7 (List.mem_of_getElem? (i := 124) rfl) rfl
theorem w_7_126 : Cond.instanceMethod ⟨"TruckPlatoonsModel", "roadAt", "(II)I"⟩ ∈ lw_big := x_t7 (List.mem_of_getElem? (i := 126) rfl) rfl
theorem w_7_127 : Cond.code ⟨"TruckPlatoonsModel", "roadAt", "(II)I"⟩ prog_13_method_15_code 3 (Option.some FieldType.int) ∈ lw_big := x_t7 (List.mem_of_getElem? (i := 127) rfl) rfl
theorem w_7_128 : Cond.methodLink "TruckPlatoonsModel" 120 ⟨"TruckPlatoonsModel", "speedAt", "(II)I"⟩ ∈ lw_big := x_t7 (List.mem_of_getElem? (i := 128) rfl) rfl
theorem w_7_130 : Cond.instanceMethod ⟨"TruckPlatoonsModel", "speedAt", "(II)I"⟩ ∈ lw_big := x_t7 (List.mem_of_getElem? (i := 130) rfl) rfl
theorem w_7_131 : Cond.code ⟨"TruckPlatoonsModel", "speedAt", "(II)I"⟩ prog_13_method_21_code 3 (Option.some FieldType.int) ∈ lw_big := x_t7 (List.mem_of_getElem? (i := 131) rfl) rfl
theorem w_7_132 : Cond.methodLink "TruckPlatoonsModel" 126 ⟨"TruckPlatoonsModel", "minutes", "(II)I"⟩ ∈ lw_big := x_t7 (List.mem_of_getElem? (i := 132) rfl) rfl
theorem w_7_134 : Cond.instanceMethod ⟨"TruckPlatoonsModel", "minutes", "(II)I"⟩ ∈ lw_big := x_t7 (List.mem_of_getElem? (i := 134) rfl) rfl
theorem w_7_135 : Cond.code ⟨"TruckPlatoonsModel", "minutes", "(II)I"⟩ prog_13_method_24_code 3 (Option.some FieldType.int) ∈ lw_big := x_t7 (List.mem_of_getElem? (i := 135) rfl) rfl
theorem w_7_136 : Cond.methodLink "TruckPlatoonsModel" 117 ⟨"TruckPlatoonsModel", "ofRoad", "(II)I"⟩ ∈ lw_big := x_t7 (List.mem_of_getElem? (i := 136) rfl) rfl
theorem w_7_138 : Cond.instanceMethod ⟨"TruckPlatoonsModel", "ofRoad", "(II)I"⟩ ∈ lw_big := x_t7 (List.mem_of_getElem? (i := 138) rfl) rfl
theorem w_7_139 : Cond.code ⟨"TruckPlatoonsModel", "ofRoad", "(II)I"⟩ prog_13_method_12_code 3 (Option.some FieldType.int) ∈ lw_big := x_t7 (List.mem_of_getElem? (i := 139) rfl) rfl
theorem w_7_140 : Cond.methodLink "TruckPlatoonsModel" 176 ⟨"TruckPlatoonsModel", "layMates", "()V"⟩ ∈ lw_big := x_t7 (List.mem_of_getElem? (i := 140) rfl) rfl
theorem w_7_142 : Cond.instanceMethod ⟨"TruckPlatoonsModel", "layMates", "()V"⟩ ∈ lw_big := x_t7 (List.mem_of_getElem? (i := 142) rfl) rfl
theorem w_7_143 : Cond.code ⟨"TruckPlatoonsModel", "layMates", "()V"⟩ prog_13_method_30_code 5 (Option.none : Option Jvm.ClassFile.FieldType) ∈ lw_big := x_t7 (List.mem_of_getElem? (i := 143) rfl) rfl
theorem w_7_144 : Cond.methodLink "TruckPlatoonsModel" 129 ⟨"TruckPlatoonsModel", "setMate", "(IIII)V"⟩ ∈ lw_big := x_t7 (List.mem_of_getElem? (i := 144) rfl) rfl
theorem w_7_146 : Cond.instanceMethod ⟨"TruckPlatoonsModel", "setMate", "(IIII)V"⟩ ∈ lw_big := x_t7 (List.mem_of_getElem? (i := 146) rfl) rfl
theorem w_7_147 : Cond.code ⟨"TruckPlatoonsModel", "setMate", "(IIII)V"⟩ prog_13_method_29_code 5 (Option.none : Option Jvm.ClassFile.FieldType) ∈ lw_big := x_t7 (List.mem_of_getElem? (i := 147) rfl) rfl
theorem w_7_148 : Cond.methodLink "TruckPlatoonsModel" 133 ⟨"TruckPlatoonsModel", "areMates", "(IIII)Z"⟩ ∈ lw_big := x_t7 (List.mem_of_getElem? (i := 148) rfl) rfl
theorem w_7_150 : Cond.instanceMethod ⟨"TruckPlatoonsModel", "areMates", "(IIII)Z"⟩ ∈ lw_big := x_t7 (List.mem_of_getElem? (i := 150) rfl) rfl
theorem w_7_151 : Cond.code ⟨"TruckPlatoonsModel", "areMates", "(IIII)Z"⟩ prog_13_method_27_code 5 (Option.some FieldType.boolean) ∈ lw_big := x_t7 (List.mem_of_getElem? (i := 151) rfl) rfl
theorem w_7_152 : Cond.methodLink "TruckPlatoonsModel" 179 ⟨"TruckPlatoonsModel", "layKey", "(II)V"⟩ ∈ lw_big := x_t7 (List.mem_of_getElem? (i := 152) rfl) rfl
theorem w_7_154 : Cond.instanceMethod ⟨"TruckPlatoonsModel", "layKey", "(II)V"⟩ ∈ lw_big := x_t7 (List.mem_of_getElem? (i := 154) rfl) rfl
theorem w_7_155 : Cond.code ⟨"TruckPlatoonsModel", "layKey", "(II)V"⟩ prog_13_method_32_code 7 (Option.none : Option Jvm.ClassFile.FieldType) ∈ lw_big := x_t7 (List.mem_of_getElem? (i := 155) rfl) rfl
theorem w_7_156 : Cond.methodLink "TruckPlatoonsModel" 137 ⟨"TruckPlatoonsModel", "mateOf", "(III)I"⟩ ∈ lw_big := x_t7 (List.mem_of_getElem? (i := 156) rfl) rfl
theorem w_7_158 : Cond.instanceMethod ⟨"TruckPlatoonsModel", "mateOf", "(III)I"⟩ ∈ lw_big := x_t7 (List.mem_of_getElem? (i := 158) rfl) rfl
theorem w_7_159 : Cond.code ⟨"TruckPlatoonsModel", "mateOf", "(III)I"⟩ prog_13_method_28_code 4 (Option.some FieldType.int) ∈ lw_big := x_t7 (List.mem_of_getElem? (i := 159) rfl) rfl
theorem w_7_160 : Cond.methodLink "TruckPlatoonsModel" 141 ⟨"TruckPlatoonsModel", "shared", "(IIII)I"⟩ ∈ lw_big := x_t7 (List.mem_of_getElem? (i := 160) rfl) rfl
theorem w_7_162 : Cond.instanceMethod ⟨"TruckPlatoonsModel", "shared", "(IIII)I"⟩ ∈ lw_big := x_t7 (List.mem_of_getElem? (i := 162) rfl) rfl
theorem w_7_163 : Cond.code ⟨"TruckPlatoonsModel", "shared", "(IIII)I"⟩ prog_13_method_31_code 6 (Option.some FieldType.int) ∈ lw_big := x_t7 (List.mem_of_getElem? (i := 163) rfl) rfl
theorem w_7_164 : Cond.methodLink "TruckPlatoonsModel" 145 ⟨"TruckPlatoonsModel", "max", "(II)I"⟩ ∈ lw_big := x_t7 (List.mem_of_getElem? (i := 164) rfl) rfl
theorem w_7_165 : Cond.static ⟨"TruckPlatoonsModel", "max", "(II)I"⟩ ∈ lw_big := x_t7 (List.mem_of_getElem? (i := 165) rfl) rfl
theorem w_7_166 : Cond.code ⟨"TruckPlatoonsModel", "max", "(II)I"⟩ prog_13_method_5_code 2 (Option.some FieldType.int) ∈ lw_big := x_t7 (List.mem_of_getElem? (i := 166) rfl) rfl
theorem w_7_167 : Cond.methodLink "TruckPlatoonsModel" 182 ⟨"TruckPlatoonsModel", "layPosition", "(II)V"⟩ ∈ lw_big := x_t7 (List.mem_of_getElem? (i := 167) rfl) rfl
theorem w_7_169 : Cond.instanceMethod ⟨"TruckPlatoonsModel", "layPosition", "(II)V"⟩ ∈ lw_big := x_t7 (List.mem_of_getElem? (i := 169) rfl) rfl
theorem w_7_170 : Cond.code ⟨"TruckPlatoonsModel", "layPosition", "(II)V"⟩ prog_13_method_33_code 8 (Option.none : Option Jvm.ClassFile.FieldType) ∈ lw_big := x_t7 (List.mem_of_getElem? (i := 170) rfl) rfl
theorem w_7_171 : Cond.methodLink "TruckPlatoonsModel" 185 ⟨"TruckPlatoonsModel", "layPlatoon", "(II)V"⟩ ∈ lw_big := x_t7 (List.mem_of_getElem? (i := 171) rfl) rfl
theorem w_7_173 : Cond.instanceMethod ⟨"TruckPlatoonsModel", "layPlatoon", "(II)V"⟩ ∈ lw_big := x_t7 (List.mem_of_getElem? (i := 173) rfl) rfl
theorem w_7_174 : Cond.code ⟨"TruckPlatoonsModel", "layPlatoon", "(II)V"⟩ prog_13_method_40_code 6 (Option.none : Option Jvm.ClassFile.FieldType) ∈ lw_big := x_t7 (List.mem_of_getElem? (i := 174) rfl) rfl
theorem w_7_175 : Cond.methodLink "TruckPlatoonsModel" 163 ⟨"TruckPlatoonsModel", "layOrder", "(II)I"⟩ ∈ lw_big := x_t7 (List.mem_of_getElem? (i := 175) rfl) rfl
theorem w_7_177 : Cond.instanceMethod ⟨"TruckPlatoonsModel", "layOrder", "(II)I"⟩ ∈ lw_big := x_t7 (List.mem_of_getElem? (i := 177) rfl) rfl
theorem w_7_178 : Cond.code ⟨"TruckPlatoonsModel", "layOrder", "(II)I"⟩ prog_13_method_39_code 5 (Option.some FieldType.int) ∈ lw_big := x_t7 (List.mem_of_getElem? (i := 178) rfl) rfl
theorem w_7_179 : Cond.methodLink "TruckPlatoonsModel" 160 ⟨"TruckPlatoonsModel", "memberAt", "(III)I"⟩ ∈ lw_big := x_t7 (List.mem_of_getElem? (i := 179) rfl) rfl
theorem w_7_181 : Cond.instanceMethod ⟨"TruckPlatoonsModel", "memberAt", "(III)I"⟩ ∈ lw_big := x_t7 (List.mem_of_getElem? (i := 181) rfl) rfl
theorem w_7_182 : Cond.code ⟨"TruckPlatoonsModel", "memberAt", "(III)I"⟩ prog_13_method_34_code 6 (Option.some FieldType.int) ∈ lw_big := x_t7 (List.mem_of_getElem? (i := 182) rfl) rfl
theorem w_7_183 : Cond.methodLink "TruckPlatoonsModel" 148 ⟨"TruckPlatoonsModel", "distanceBehind", "(I)I"⟩ ∈ lw_big := x_t7 (List.mem_of_getElem? (i := 183) rfl) rfl
theorem w_7_185 : Cond.instanceMethod ⟨"TruckPlatoonsModel", "distanceBehind", "(I)I"⟩ ∈ lw_big := x_t7 (List.mem_of_getElem? (i := 185) rfl) rfl
theorem w_7_186 : Cond.code ⟨"TruckPlatoonsModel", "distanceBehind", "(I)I"⟩ prog_13_method_35_code 2 (Option.some FieldType.int) ∈ lw_big := x_t7 (List.mem_of_getElem? (i := 186) rfl) rfl
theorem w_7_187 : Cond.methodLink "TruckPlatoonsModel" 166 ⟨"TruckPlatoonsModel", "savingOf", "(II)I"⟩ ∈ lw_big := x_t7 (List.mem_of_getElem? (i := 187) rfl) rfl
theorem w_7_189 : Cond.instanceMethod ⟨"TruckPlatoonsModel", "savingOf", "(II)I"⟩ ∈ lw_big := x_t7 (List.mem_of_getElem? (i := 189) rfl) rfl
theorem w_7_190 : Cond.code ⟨"TruckPlatoonsModel", "savingOf", "(II)I"⟩ prog_13_method_37_code 4 (Option.some FieldType.int) ∈ lw_big := x_t7 (List.mem_of_getElem? (i := 190) rfl) rfl
theorem w_7_191 : Cond.methodLink "TruckPlatoonsModel" 151 ⟨"TruckPlatoonsModel", "baseAt", "(II)I"⟩ ∈ lw_big := x_t7 (List.mem_of_getElem? (i := 191) rfl) rfl
theorem w_7_193 : Cond.instanceMethod ⟨"TruckPlatoonsModel", "baseAt", "(II)I"⟩ ∈ lw_big := x_t7 (List.mem_of_getElem? (i := 193) rfl) rfl
theorem w_7_194 : Cond.code ⟨"TruckPlatoonsModel", "baseAt", "(II)I"⟩ prog_13_method_25_code 4 (Option.some FieldType.int) ∈ lw_big := x_t7 (List.mem_of_getElem? (i := 194) rfl) rfl
theorem w_7_195 : Cond.methodLink "TruckPlatoonsModel" 154 ⟨"TruckPlatoonsModel", "shareOf", "(I)I"⟩ ∈ lw_big := x_t7 (List.mem_of_getElem? (i := 195) rfl) rfl
theorem w_7_197 : Cond.instanceMethod ⟨"TruckPlatoonsModel", "shareOf", "(I)I"⟩ ∈ lw_big := x_t7 (List.mem_of_getElem? (i := 197) rfl) rfl
theorem w_7_198 : Cond.code ⟨"TruckPlatoonsModel", "shareOf", "(I)I"⟩ prog_13_method_36_code 2 (Option.some FieldType.int) ∈ lw_big := x_t7 (List.mem_of_getElem? (i := 198) rfl) rfl
theorem w_7_199 : Cond.methodLink "TruckPlatoonsModel" 169 ⟨"TruckPlatoonsModel", "isClosing", "(I)Z"⟩ ∈ lw_big := x_t7 (List.mem_of_getElem? (i := 199) rfl) rfl
theorem w_7_201 : Cond.instanceMethod ⟨"TruckPlatoonsModel", "isClosing", "(I)Z"⟩ ∈ lw_big := x_t7 (List.mem_of_getElem? (i := 201) rfl) rfl
theorem w_7_202 : Cond.code ⟨"TruckPlatoonsModel", "isClosing", "(I)Z"⟩ prog_13_method_38_code 5 (Option.some FieldType.boolean) ∈ lw_big := x_t7 (List.mem_of_getElem? (i := 202) rfl) rfl
theorem w_7_203 : Cond.methodLink "TruckPlatoonsModel" 157 ⟨"TruckPlatoonsModel", "nextRoad", "(II)I"⟩ ∈ lw_big := x_t7 (List.mem_of_getElem? (i := 203) rfl) rfl
theorem w_7_205 : Cond.instanceMethod ⟨"TruckPlatoonsModel", "nextRoad", "(II)I"⟩ ∈ lw_big := x_t7 (List.mem_of_getElem? (i := 205) rfl) rfl
theorem w_7_206 : Cond.code ⟨"TruckPlatoonsModel", "nextRoad", "(II)I"⟩ prog_13_method_23_code 3 (Option.some FieldType.int) ∈ lw_big := x_t7 (List.mem_of_getElem? (i := 206) rfl) rfl
theorem w_7_207 : Cond.methodLink "TruckPlatoonsModel" 203 ⟨"TruckPlatoonsModel", "allPlaces", "()I"⟩ ∈ lw_big := x_t7 (List.mem_of_getElem? (i := 207) rfl) rfl
theorem w_7_209 : Cond.instanceMethod ⟨"TruckPlatoonsModel", "allPlaces", "()I"⟩ ∈ lw_big := x_t7 (List.mem_of_getElem? (i := 209) rfl) rfl
theorem w_7_210 : Cond.code ⟨"TruckPlatoonsModel", "allPlaces", "()I"⟩ prog_13_method_48_code 3 (Option.some FieldType.int) ∈ lw_big := x_t7 (List.mem_of_getElem? (i := 210) rfl) rfl
theorem w_7_211 : Cond.methodLink "TruckPlatoonsModel" 207 ⟨"TruckPlatoonsModel", "platoons", "(Z)I"⟩ ∈ lw_big := x_t7 (List.mem_of_getElem? (i := 211) rfl) rfl
theorem w_7_213 : Cond.instanceMethod ⟨"TruckPlatoonsModel", "platoons", "(Z)I"⟩ ∈ lw_big := x_t7 (List.mem_of_getElem? (i := 213) rfl) rfl
theorem w_7_214 : Cond.code ⟨"TruckPlatoonsModel", "platoons", "(Z)I"⟩ prog_13_method_51_code 7 (Option.some FieldType.int) ∈ lw_big := x_t7 (List.mem_of_getElem? (i := 214) rfl) rfl
theorem w_7_215 : Cond.methodLink "TruckPlatoonsModel" 211 ⟨"TruckPlatoonsModel", "lateSet", "()I"⟩ ∈ lw_big := x_t7 (List.mem_of_getElem? (i := 215) rfl) rfl
theorem w_7_217 : Cond.instanceMethod ⟨"TruckPlatoonsModel", "lateSet", "()I"⟩ ∈ lw_big := x_t7 (List.mem_of_getElem? (i := 217) rfl) rfl
theorem w_7_218 : Cond.code ⟨"TruckPlatoonsModel", "lateSet", "()I"⟩ prog_13_method_49_code 3 (Option.some FieldType.int) ∈ lw_big := x_t7 (List.mem_of_getElem? (i := 218) rfl) rfl
theorem w_7_219 : Cond.methodLink "TruckPlatoonsModel" 197 ⟨"TruckPlatoonsModel", "isLate", "(I)Z"⟩ ∈ lw_big := x_t7 (List.mem_of_getElem? (i := 219) rfl) rfl
theorem w_7_221 : Cond.instanceMethod ⟨"TruckPlatoonsModel", "isLate", "(I)Z"⟩ ∈ lw_big := x_t7 (List.mem_of_getElem? (i := 221) rfl) rfl
theorem w_7_222 : Cond.code ⟨"TruckPlatoonsModel", "isLate", "(I)Z"⟩ prog_13_method_46_code 2 (Option.some FieldType.boolean) ∈ lw_big := x_t7 (List.mem_of_getElem? (i := 222) rfl) rfl
theorem w_7_223 : Cond.methodLink "TruckPlatoonsModel" 194 ⟨"TruckPlatoonsModel", "arrival", "(I)I"⟩ ∈ lw_big := x_t7 (List.mem_of_getElem? (i := 223) rfl) rfl
theorem w_7_225 : Cond.instanceMethod ⟨"TruckPlatoonsModel", "arrival", "(I)I"⟩ ∈ lw_big := x_t7 (List.mem_of_getElem? (i := 225) rfl) rfl
theorem w_7_226 : Cond.code ⟨"TruckPlatoonsModel", "arrival", "(I)I"⟩ prog_13_method_45_code 2 (Option.some FieldType.int) ∈ lw_big := x_t7 (List.mem_of_getElem? (i := 226) rfl) rfl
theorem w_7_227 : Cond.methodLink "TruckPlatoonsModel" 214 ⟨"TruckPlatoonsModel", "bits", "(I)I"⟩ ∈ lw_big := x_t7 (List.mem_of_getElem? (i := 227) rfl) rfl
theorem w_7_228 : Cond.static ⟨"TruckPlatoonsModel", "bits", "(I)I"⟩ ∈ lw_big := x_t7 (List.mem_of_getElem? (i := 228) rfl) rfl
theorem w_7_229 : Cond.code ⟨"TruckPlatoonsModel", "bits", "(I)I"⟩ prog_13_method_50_code 3 (Option.some FieldType.int) ∈ lw_big := x_t7 (List.mem_of_getElem? (i := 229) rfl) rfl
theorem w_7_230 : Cond.methodLink "TruckPlatoonsModel" 217 ⟨"TruckPlatoonsModel", "sumOfAll", "(I)I"⟩ ∈ lw_big := x_t7 (List.mem_of_getElem? (i := 230) rfl) rfl
theorem w_7_232 : Cond.instanceMethod ⟨"TruckPlatoonsModel", "sumOfAll", "(I)I"⟩ ∈ lw_big := x_t7 (List.mem_of_getElem? (i := 232) rfl) rfl
theorem w_7_233 : Cond.code ⟨"TruckPlatoonsModel", "sumOfAll", "(I)I"⟩ prog_13_method_44_code 4 (Option.some FieldType.int) ∈ lw_big := x_t7 (List.mem_of_getElem? (i := 233) rfl) rfl
theorem w_7_234 : Cond.methodLink "TruckPlatoonsModel" 191 ⟨"TruckPlatoonsModel", "sumOf", "(II)I"⟩ ∈ lw_big := x_t7 (List.mem_of_getElem? (i := 234) rfl) rfl
theorem w_7_236 : Cond.instanceMethod ⟨"TruckPlatoonsModel", "sumOf", "(II)I"⟩ ∈ lw_big := x_t7 (List.mem_of_getElem? (i := 236) rfl) rfl
theorem w_7_237 : Cond.code ⟨"TruckPlatoonsModel", "sumOf", "(II)I"⟩ prog_13_method_43_code 6 (Option.some FieldType.int) ∈ lw_big := x_t7 (List.mem_of_getElem? (i := 237) rfl) rfl
theorem w_7_238 : Cond.methodLink "TruckPlatoonsModel" 188 ⟨"TruckPlatoonsModel", "fuelAt", "(II)I"⟩ ∈ lw_big := x_t7 (List.mem_of_getElem? (i := 238) rfl) rfl
theorem w_8_0 : Cond.instanceMethod ⟨"TruckPlatoonsModel", "fuelAt", "(II)I"⟩ ∈ lw_big := x_t8 (List.mem_of_getElem? (i := 0) rfl) rfl
theorem w_8_1 : Cond.code ⟨"TruckPlatoonsModel", "fuelAt", "(II)I"⟩ prog_13_method_42_code 3 (Option.some FieldType.int) ∈ lw_big := x_t8 (List.mem_of_getElem? (i := 1) rfl) rfl
theorem w_8_2 : Cond.methodLink "TruckPlatoonsLaw" 146 ⟨"TruckPlatoonsModel", "road", "(II)I"⟩ ∈ lw_big := x_t8 (List.mem_of_getElem? (i := 2) rfl) rfl
theorem w_8_3 : Cond.instanceMethod ⟨"TruckPlatoonsModel", "road", "(II)I"⟩ ∈ lw_big := x_t8 (List.mem_of_getElem? (i := 3) rfl) rfl
theorem w_8_4 : Cond.selects "TruckPlatoonsModel" ⟨"TruckPlatoonsModel", "road", "(II)I"⟩ ⟨"TruckPlatoonsModel", "road", "(II)I"⟩ ∈ lw_big := x_t8 (List.mem_of_getElem? (i := 4) rfl) rfl
theorem w_8_5 : Cond.code ⟨"TruckPlatoonsModel", "road", "(II)I"⟩ prog_13_method_58_code 3 (Option.some FieldType.int) ∈ lw_big := x_t8 (List.mem_of_getElem? (i := 5) rfl) rfl
theorem w_8_6 : Cond.methodLink "TruckPlatoonsModel" 232 ⟨"TruckPlatoonsModel", "isRoad", "(I)Z"⟩ ∈ lw_big := x_t8 (List.mem_of_getElem? (i := 6) rfl) rfl
theorem w_8_8 : Cond.instanceMethod ⟨"TruckPlatoonsModel", "isRoad", "(I)Z"⟩ ∈ lw_big := x_t8 (List.mem_of_getElem? (i := 8) rfl) rfl
theorem w_8_9 : Cond.code ⟨"TruckPlatoonsModel", "isRoad", "(I)Z"⟩ prog_13_method_16_code 2 (Option.some FieldType.boolean) ∈ lw_big := x_t8 (List.mem_of_getElem? (i := 9) rfl) rfl
theorem w_8_10 : Cond.methodLink "TruckPlatoonsModel" 235 ⟨"TruckPlatoonsModel", "throwsIf", "(ZI)Z"⟩ ∈ lw_big := x_t8 (List.mem_of_getElem? (i := 10) rfl) rfl
theorem w_8_12 : Cond.instanceMethod ⟨"TruckPlatoonsModel", "throwsIf", "(ZI)Z"⟩ ∈ lw_big := x_t8 (List.mem_of_getElem? (i := 12) rfl) rfl
theorem w_8_13 : Cond.code ⟨"TruckPlatoonsModel", "throwsIf", "(ZI)Z"⟩ prog_13_method_3_code 3 (Option.some FieldType.boolean) ∈ lw_big := x_t8 (List.mem_of_getElem? (i := 13) rfl) rfl
theorem w_8_14 : Cond.methodLink "TruckPlatoonsModel" 239 ⟨"TruckPlatoonsModel", "platoonsOn", "(I)I"⟩ ∈ lw_big := x_t8 (List.mem_of_getElem? (i := 14) rfl) rfl
theorem w_8_16 : Cond.instanceMethod ⟨"TruckPlatoonsModel", "platoonsOn", "(I)I"⟩ ∈ lw_big := x_t8 (List.mem_of_getElem? (i := 16) rfl) rfl
theorem w_8_17 : Cond.code ⟨"TruckPlatoonsModel", "platoonsOn", "(I)I"⟩ prog_13_method_55_code 5 (Option.some FieldType.int) ∈ lw_big := x_t8 (List.mem_of_getElem? (i := 17) rfl) rfl
theorem w_8_18 : Cond.methodLink "TruckPlatoonsModel" 242 ⟨"TruckPlatoonsModel", "trucksOn", "(I)I"⟩ ∈ lw_big := x_t8 (List.mem_of_getElem? (i := 18) rfl) rfl
theorem w_8_20 : Cond.instanceMethod ⟨"TruckPlatoonsModel", "trucksOn", "(I)I"⟩ ∈ lw_big := x_t8 (List.mem_of_getElem? (i := 20) rfl) rfl
theorem w_8_21 : Cond.code ⟨"TruckPlatoonsModel", "trucksOn", "(I)I"⟩ prog_13_method_57_code 6 (Option.some FieldType.int) ∈ lw_big := x_t8 (List.mem_of_getElem? (i := 21) rfl) rfl
theorem w_8_22 : Cond.methodLink "TruckPlatoonsLaw" 152 ⟨"TruckPlatoonsModel", "truck", "(II)I"⟩ ∈ lw_big := x_t8 (List.mem_of_getElem? (i := 22) rfl) rfl
theorem w_8_23 : Cond.instanceMethod ⟨"TruckPlatoonsModel", "truck", "(II)I"⟩ ∈ lw_big := x_t8 (List.mem_of_getElem? (i := 23) rfl) rfl
theorem w_8_24 : Cond.selects "TruckPlatoonsModel" ⟨"TruckPlatoonsModel", "truck", "(II)I"⟩ ⟨"TruckPlatoonsModel", "truck", "(II)I"⟩ ∈ lw_big := x_t8 (List.mem_of_getElem? (i := 24) rfl) rfl
theorem w_8_25 : Cond.code ⟨"TruckPlatoonsModel", "truck", "(II)I"⟩ prog_13_method_59_code 3 (Option.some FieldType.int) ∈ lw_big := x_t8 (List.mem_of_getElem? (i := 25) rfl) rfl
theorem w_8_26 : Cond.methodLink "TruckPlatoonsModel" 103 ⟨"TruckPlatoonsModel", "isTruck", "(I)Z"⟩ ∈ lw_big := x_t8 (List.mem_of_getElem? (i := 26) rfl) rfl
theorem w_8_28 : Cond.instanceMethod ⟨"TruckPlatoonsModel", "isTruck", "(I)Z"⟩ ∈ lw_big := x_t8 (List.mem_of_getElem? (i := 28) rfl) rfl
theorem w_8_29 : Cond.code ⟨"TruckPlatoonsModel", "isTruck", "(I)Z"⟩ prog_13_method_17_code 2 (Option.some FieldType.boolean) ∈ lw_big := x_t8 (List.mem_of_getElem? (i := 29) rfl) rfl
theorem w_8_30 : Cond.methodLink "TruckPlatoonsLaw" 156 ⟨"TruckPlatoonsModel", "place", "(III)I"⟩ ∈ lw_big := x_t8 (List.mem_of_getElem? (i := 30) rfl) rfl
theorem w_8_31 : Cond.instanceMethod ⟨"TruckPlatoonsModel", "place", "(III)I"⟩ ∈ lw_big := x_t8 (List.mem_of_getElem? (i := 31) rfl) rfl
theorem w_8_32 : Cond.selects "TruckPlatoonsModel" ⟨"TruckPlatoonsModel", "place", "(III)I"⟩ ⟨"TruckPlatoonsModel", "place", "(III)I"⟩ ∈ lw_big := x_t8 (List.mem_of_getElem? (i := 32) rfl) rfl
theorem w_8_33 : Cond.code ⟨"TruckPlatoonsModel", "place", "(III)I"⟩ prog_13_method_61_code 5 (Option.some FieldType.int) ∈ lw_big := x_t8 (List.mem_of_getElem? (i := 33) rfl) rfl
theorem w_8_34 : Cond.methodLink "TruckPlatoonsModel" 249 ⟨"TruckPlatoonsModel", "noPlace", "(II)Z"⟩ ∈ lw_big := x_t8 (List.mem_of_getElem? (i := 34) rfl) rfl
theorem w_8_36 : Cond.instanceMethod ⟨"TruckPlatoonsModel", "noPlace", "(II)Z"⟩ ∈ lw_big := x_t8 (List.mem_of_getElem? (i := 36) rfl) rfl
theorem w_8_37 : Cond.code ⟨"TruckPlatoonsModel", "noPlace", "(II)Z"⟩ prog_13_method_60_code 3 (Option.some FieldType.boolean) ∈ lw_big := x_t8 (List.mem_of_getElem? (i := 37) rfl) rfl
theorem w_8_38 : Cond.methodLink "TruckPlatoonsModel" 245 ⟨"TruckPlatoonsModel", "isPlace", "(II)Z"⟩ ∈ lw_big := x_t8 (List.mem_of_getElem? (i := 38) rfl) rfl
theorem w_8_40 : Cond.instanceMethod ⟨"TruckPlatoonsModel", "isPlace", "(II)Z"⟩ ∈ lw_big := x_t8 (List.mem_of_getElem? (i := 40) rfl) rfl
theorem w_8_41 : Cond.code ⟨"TruckPlatoonsModel", "isPlace", "(II)Z"⟩ prog_13_method_18_code 3 (Option.some FieldType.boolean) ∈ lw_big := x_t8 (List.mem_of_getElem? (i := 41) rfl) rfl
theorem w_8_42 : Cond.methodLink "TruckPlatoonsModel" 252 ⟨"TruckPlatoonsModel", "readyAt", "(II)I"⟩ ∈ lw_big := x_t8 (List.mem_of_getElem? (i := 42) rfl) rfl
theorem w_8_44 : Cond.instanceMethod ⟨"TruckPlatoonsModel", "readyAt", "(II)I"⟩ ∈ lw_big := x_t8 (List.mem_of_getElem? (i := 44) rfl) rfl
theorem w_8_45 : Cond.code ⟨"TruckPlatoonsModel", "readyAt", "(II)I"⟩ prog_13_method_47_code 3 (Option.some FieldType.int) ∈ lw_big := x_t8 (List.mem_of_getElem? (i := 45) rfl) rfl
theorem w_8_46 : Cond.methodLink "TruckPlatoonsLaw" 159 ⟨"TruckPlatoonsModel", "platoonOf", "(II)I"⟩ ∈ lw_big := x_t8 (List.mem_of_getElem? (i := 46) rfl) rfl
theorem w_8_47 : Cond.instanceMethod ⟨"TruckPlatoonsModel", "platoonOf", "(II)I"⟩ ∈ lw_big := x_t8 (List.mem_of_getElem? (i := 47) rfl) rfl
theorem w_8_48 : Cond.selects "TruckPlatoonsModel" ⟨"TruckPlatoonsModel", "platoonOf", "(II)I"⟩ ⟨"TruckPlatoonsModel", "platoonOf", "(II)I"⟩ ∈ lw_big := x_t8 (List.mem_of_getElem? (i := 48) rfl) rfl
theorem w_8_49 : Cond.code ⟨"TruckPlatoonsModel", "platoonOf", "(II)I"⟩ prog_13_method_62_code 3 (Option.some FieldType.int) ∈ lw_big := x_t8 (List.mem_of_getElem? (i := 49) rfl) rfl
theorem w_8_50 : Cond.methodLink "TruckPlatoonsModel" 229 ⟨"TruckPlatoonsModel", "numberOf", "(II)I"⟩ ∈ lw_big := x_t8 (List.mem_of_getElem? (i := 50) rfl) rfl
theorem w_8_52 : Cond.instanceMethod ⟨"TruckPlatoonsModel", "numberOf", "(II)I"⟩ ∈ lw_big := x_t8 (List.mem_of_getElem? (i := 52) rfl) rfl
theorem w_8_53 : Cond.code ⟨"TruckPlatoonsModel", "numberOf", "(II)I"⟩ prog_13_method_54_code 7 (Option.some FieldType.int) ∈ lw_big := x_t8 (List.mem_of_getElem? (i := 53) rfl) rfl
theorem w_8_54 : Cond.methodLink "TruckPlatoonsModel" 220 ⟨"TruckPlatoonsModel", "comesAhead", "(IIII)Z"⟩ ∈ lw_big := x_t8 (List.mem_of_getElem? (i := 54) rfl) rfl
theorem w_8_56 : Cond.instanceMethod ⟨"TruckPlatoonsModel", "comesAhead", "(IIII)Z"⟩ ∈ lw_big := x_t8 (List.mem_of_getElem? (i := 56) rfl) rfl
theorem w_8_57 : Cond.code ⟨"TruckPlatoonsModel", "comesAhead", "(IIII)Z"⟩ prog_13_method_53_code 5 (Option.some FieldType.boolean) ∈ lw_big := x_t8 (List.mem_of_getElem? (i := 57) rfl) rfl
theorem w_8_58 : Cond.methodLink "TruckPlatoonsLaw" 162 ⟨"TruckPlatoonsModel", "position", "(II)I"⟩ ∈ lw_big := x_t8 (List.mem_of_getElem? (i := 58) rfl) rfl
theorem w_8_59 : Cond.instanceMethod ⟨"TruckPlatoonsModel", "position", "(II)I"⟩ ∈ lw_big := x_t8 (List.mem_of_getElem? (i := 59) rfl) rfl
theorem w_8_60 : Cond.selects "TruckPlatoonsModel" ⟨"TruckPlatoonsModel", "position", "(II)I"⟩ ⟨"TruckPlatoonsModel", "position", "(II)I"⟩ ∈ lw_big := x_t8 (List.mem_of_getElem? (i := 60) rfl) rfl
theorem w_8_61 : Cond.code ⟨"TruckPlatoonsModel", "position", "(II)I"⟩ prog_13_method_63_code 3 (Option.some FieldType.int) ∈ lw_big := x_t8 (List.mem_of_getElem? (i := 61) rfl) rfl
theorem w_8_62 : Cond.methodLink "TruckPlatoonsLaw" 165 ⟨"TruckPlatoonsModel", "key", "(II)I"⟩ ∈ lw_big := x_t8 (List.mem_of_getElem? (i := 62) rfl) rfl
theorem w_8_63 : Cond.instanceMethod ⟨"TruckPlatoonsModel", "key", "(II)I"⟩ ∈ lw_big := x_t8 (List.mem_of_getElem? (i := 63) rfl) rfl
theorem w_8_64 : Cond.selects "TruckPlatoonsModel" ⟨"TruckPlatoonsModel", "key", "(II)I"⟩ ⟨"TruckPlatoonsModel", "key", "(II)I"⟩ ∈ lw_big := x_t8 (List.mem_of_getElem? (i := 64) rfl) rfl
theorem w_8_65 : Cond.code ⟨"TruckPlatoonsModel", "key", "(II)I"⟩ prog_13_method_64_code 3 (Option.some FieldType.int) ∈ lw_big := x_t8 (List.mem_of_getElem? (i := 65) rfl) rfl
theorem w_8_66 : Cond.methodLink "TruckPlatoonsLaw" 168 ⟨"TruckPlatoonsModel", "platoon", "(III)I"⟩ ∈ lw_big := x_t8 (List.mem_of_getElem? (i := 66) rfl) rfl
theorem w_8_67 : Cond.instanceMethod ⟨"TruckPlatoonsModel", "platoon", "(III)I"⟩ ∈ lw_big := x_t8 (List.mem_of_getElem? (i := 67) rfl) rfl
theorem w_8_68 : Cond.selects "TruckPlatoonsModel" ⟨"TruckPlatoonsModel", "platoon", "(III)I"⟩ ⟨"TruckPlatoonsModel", "platoon", "(III)I"⟩ ∈ lw_big := x_t8 (List.mem_of_getElem? (i := 68) rfl) rfl
theorem w_8_69 : Cond.code ⟨"TruckPlatoonsModel", "platoon", "(III)I"⟩ prog_13_method_66_code 10 (Option.some FieldType.int) ∈ lw_big := x_t8 (List.mem_of_getElem? (i := 69) rfl) rfl
theorem w_8_70 : Cond.methodLink "TruckPlatoonsModel" 258 ⟨"TruckPlatoonsModel", "noPlatoon", "(II)Z"⟩ ∈ lw_big := x_t8 (List.mem_of_getElem? (i := 70) rfl) rfl
theorem w_8_72 : Cond.instanceMethod ⟨"TruckPlatoonsModel", "noPlatoon", "(II)Z"⟩ ∈ lw_big := x_t8 (List.mem_of_getElem? (i := 72) rfl) rfl
theorem w_8_73 : Cond.code ⟨"TruckPlatoonsModel", "noPlatoon", "(II)Z"⟩ prog_13_method_65_code 3 (Option.some FieldType.boolean) ∈ lw_big := x_t8 (List.mem_of_getElem? (i := 73) rfl) rfl
theorem w_8_74 : Cond.methodLink "TruckPlatoonsModel" 255 ⟨"TruckPlatoonsModel", "findPlatoon", "(II)Z"⟩ ∈ lw_big := x_t8 (List.mem_of_getElem? (i := 74) rfl) rfl
theorem w_8_76 : Cond.instanceMethod ⟨"TruckPlatoonsModel", "findPlatoon", "(II)Z"⟩ ∈ lw_big := x_t8 (List.mem_of_getElem? (i := 76) rfl) rfl
theorem w_8_77 : Cond.code ⟨"TruckPlatoonsModel", "findPlatoon", "(II)Z"⟩ prog_13_method_56_code 3 (Option.some FieldType.boolean) ∈ lw_big := x_t8 (List.mem_of_getElem? (i := 77) rfl) rfl
theorem w_8_78 : Cond.methodLink "TruckPlatoonsLaw" 171 ⟨"TruckPlatoonsModel", "member", "(III)I"⟩ ∈ lw_big := x_t8 (List.mem_of_getElem? (i := 78) rfl) rfl
theorem w_8_79 : Cond.instanceMethod ⟨"TruckPlatoonsModel", "member", "(III)I"⟩ ∈ lw_big := x_t8 (List.mem_of_getElem? (i := 79) rfl) rfl
theorem w_8_80 : Cond.selects "TruckPlatoonsModel" ⟨"TruckPlatoonsModel", "member", "(III)I"⟩ ⟨"TruckPlatoonsModel", "member", "(III)I"⟩ ∈ lw_big := x_t8 (List.mem_of_getElem? (i := 80) rfl) rfl
theorem w_8_81 : Cond.code ⟨"TruckPlatoonsModel", "member", "(III)I"⟩ prog_13_method_67_code 4 (Option.some FieldType.int) ∈ lw_big := x_t8 (List.mem_of_getElem? (i := 81) rfl) rfl
theorem w_8_82 : Cond.methodLink "TruckPlatoonsLaw" 174 ⟨"TruckPlatoonsModel", "together", "(II)I"⟩ ∈ lw_big := x_t8 (List.mem_of_getElem? (i := 82) rfl) rfl
theorem w_8_83 : Cond.instanceMethod ⟨"TruckPlatoonsModel", "together", "(II)I"⟩ ∈ lw_big := x_t8 (List.mem_of_getElem? (i := 83) rfl) rfl
theorem w_8_84 : Cond.selects "TruckPlatoonsModel" ⟨"TruckPlatoonsModel", "together", "(II)I"⟩ ⟨"TruckPlatoonsModel", "together", "(II)I"⟩ ∈ lw_big := x_t8 (List.mem_of_getElem? (i := 84) rfl) rfl
theorem w_8_85 : Cond.code ⟨"TruckPlatoonsModel", "together", "(II)I"⟩ prog_13_method_69_code 5 (Option.some FieldType.int) ∈ lw_big := x_t8 (List.mem_of_getElem? (i := 85) rfl) rfl
theorem w_8_86 : Cond.methodLink "TruckPlatoonsModel" 261 ⟨"TruckPlatoonsModel", "notTwo", "(II)Z"⟩ ∈ lw_big := x_t8 (List.mem_of_getElem? (i := 86) rfl) rfl
theorem w_8_88 : Cond.instanceMethod ⟨"TruckPlatoonsModel", "notTwo", "(II)Z"⟩ ∈ lw_big := x_t8 (List.mem_of_getElem? (i := 88) rfl) rfl
theorem w_8_89 : Cond.code ⟨"TruckPlatoonsModel", "notTwo", "(II)Z"⟩ prog_13_method_68_code 3 (Option.some FieldType.boolean) ∈ lw_big := x_t8 (List.mem_of_getElem? (i := 89) rfl) rfl
theorem w_8_90 : Cond.methodLink "TruckPlatoonsLaw" 177 ⟨"TruckPlatoonsModel", "pairSaved", "(II)I"⟩ ∈ lw_big := x_t8 (List.mem_of_getElem? (i := 90) rfl) rfl
theorem w_8_91 : Cond.instanceMethod ⟨"TruckPlatoonsModel", "pairSaved", "(II)I"⟩ ∈ lw_big := x_t8 (List.mem_of_getElem? (i := 91) rfl) rfl
theorem w_8_92 : Cond.selects "TruckPlatoonsModel" ⟨"TruckPlatoonsModel", "pairSaved", "(II)I"⟩ ⟨"TruckPlatoonsModel", "pairSaved", "(II)I"⟩ ∈ lw_big := x_t8 (List.mem_of_getElem? (i := 92) rfl) rfl
theorem w_8_93 : Cond.code ⟨"TruckPlatoonsModel", "pairSaved", "(II)I"⟩ prog_13_method_70_code 10 (Option.some FieldType.int) ∈ lw_big := x_t8 (List.mem_of_getElem? (i := 93) rfl) rfl
theorem w_8_94 : Cond.methodLink "TruckPlatoonsLaw" 180 ⟨"TruckPlatoonsModel", "run", "(III)I"⟩ ∈ lw_big := x_t8 (List.mem_of_getElem? (i := 94) rfl) rfl
theorem w_8_95 : Cond.instanceMethod ⟨"TruckPlatoonsModel", "run", "(III)I"⟩ ∈ lw_big := x_t8 (List.mem_of_getElem? (i := 95) rfl) rfl
theorem w_8_96 : Cond.selects "TruckPlatoonsModel" ⟨"TruckPlatoonsModel", "run", "(III)I"⟩ ⟨"TruckPlatoonsModel", "run", "(III)I"⟩ ∈ lw_big := x_t8 (List.mem_of_getElem? (i := 96) rfl) rfl
theorem w_8_97 : Cond.code ⟨"TruckPlatoonsModel", "run", "(III)I"⟩ prog_13_method_73_code 4 (Option.some FieldType.int) ∈ lw_big := x_t8 (List.mem_of_getElem? (i := 97) rfl) rfl
theorem w_8_98 : Cond.constantLong "TruckPlatoonsModel" 276 (2 : Int64) ∈ lw_big := x_t8 (List.mem_of_getElem? (i := 98) rfl) rfl
theorem w_8_99 : Cond.methodLink "TruckPlatoonsModel" 278 ⟨"TruckPlatoonsModel", "layRun", "(II)V"⟩ ∈ lw_big := x_t8 (List.mem_of_getElem? (i := 99) rfl) rfl
theorem w_8_101 : Cond.instanceMethod ⟨"TruckPlatoonsModel", "layRun", "(II)V"⟩ ∈ lw_big := x_t8 (List.mem_of_getElem? (i := 101) rfl) rfl
theorem w_8_102 : Cond.code ⟨"TruckPlatoonsModel", "layRun", "(II)V"⟩ prog_13_method_72_code 3 (Option.none : Option Jvm.ClassFile.FieldType) ∈ lw_big := x_t8 (List.mem_of_getElem? (i := 102) rfl) rfl
theorem w_8_103 : Cond.methodLink "TruckPlatoonsModel" 270 ⟨"TruckPlatoonsModel", "placeOf", "(II)I"⟩ ∈ lw_big := x_t8 (List.mem_of_getElem? (i := 103) rfl) rfl
theorem w_8_105 : Cond.instanceMethod ⟨"TruckPlatoonsModel", "placeOf", "(II)I"⟩ ∈ lw_big := x_t8 (List.mem_of_getElem? (i := 105) rfl) rfl
theorem w_8_106 : Cond.code ⟨"TruckPlatoonsModel", "placeOf", "(II)I"⟩ prog_13_method_71_code 4 (Option.some FieldType.int) ∈ lw_big := x_t8 (List.mem_of_getElem? (i := 106) rfl) rfl
theorem w_8_107 : Cond.methodLink "TruckPlatoonsLaw" 183 ⟨"TruckPlatoonsModel", "common", "(II)I"⟩ ∈ lw_big := x_t8 (List.mem_of_getElem? (i := 107) rfl) rfl
theorem w_8_108 : Cond.instanceMethod ⟨"TruckPlatoonsModel", "common", "(II)I"⟩ ∈ lw_big := x_t8 (List.mem_of_getElem? (i := 108) rfl) rfl
theorem w_8_109 : Cond.selects "TruckPlatoonsModel" ⟨"TruckPlatoonsModel", "common", "(II)I"⟩ ⟨"TruckPlatoonsModel", "common", "(II)I"⟩ ∈ lw_big := x_t8 (List.mem_of_getElem? (i := 109) rfl) rfl
theorem w_8_110 : Cond.code ⟨"TruckPlatoonsModel", "common", "(II)I"⟩ prog_13_method_74_code 5 (Option.some FieldType.int) ∈ lw_big := x_t8 (List.mem_of_getElem? (i := 110) rfl) rfl
theorem w_8_111 : Cond.methodLink "TruckPlatoonsLaw" 187 ⟨"TruckPlatoonsModel", "slack", "(I)I"⟩ ∈ lw_big := x_t8 (List.mem_of_getElem? (i := 111) rfl) rfl
theorem w_8_112 : Cond.instanceMethod ⟨"TruckPlatoonsModel", "slack", "(I)I"⟩ ∈ lw_big := x_t8 (List.mem_of_getElem? (i := 112) rfl) rfl
theorem w_8_113 : Cond.selects "TruckPlatoonsModel" ⟨"TruckPlatoonsModel", "slack", "(I)I"⟩ ⟨"TruckPlatoonsModel", "slack", "(I)I"⟩ ∈ lw_big := x_t8 (List.mem_of_getElem? (i := 113) rfl) rfl
theorem w_8_114 : Cond.code ⟨"TruckPlatoonsModel", "slack", "(I)I"⟩ prog_13_method_75_code 2 (Option.some FieldType.int) ∈ lw_big := x_t8 (List.mem_of_getElem? (i := 114) rfl) rfl
theorem w_8_115 : Cond.methodLink "TruckPlatoonsLaw" 190 ⟨"TruckPlatoonsModel", "neededSpeed", "(III)I"⟩ ∈ lw_big := x_t8 (List.mem_of_getElem? (i := 115) rfl) rfl
theorem w_8_116 : Cond.instanceMethod ⟨"TruckPlatoonsModel", "neededSpeed", "(III)I"⟩ ∈ lw_big := x_t8 (List.mem_of_getElem? (i := 116) rfl) rfl
theorem w_8_117 : Cond.selects "TruckPlatoonsModel" ⟨"TruckPlatoonsModel", "neededSpeed", "(III)I"⟩ ⟨"TruckPlatoonsModel", "neededSpeed", "(III)I"⟩ ∈ lw_big := x_t8 (List.mem_of_getElem? (i := 117) rfl) rfl
theorem w_8_118 : Cond.code ⟨"TruckPlatoonsModel", "neededSpeed", "(III)I"⟩ prog_13_method_76_code 5 (Option.some FieldType.int) ∈ lw_big := x_t8 (List.mem_of_getElem? (i := 118) rfl) rfl
theorem w_8_119 : Cond.constantLong "TruckPlatoonsModel" 281 (20000 : Int64) ∈ lw_big := x_t8 (List.mem_of_getElem? (i := 119) rfl) rfl
theorem w_8_120 : Cond.methodLink "TruckPlatoonsModel" 283 ⟨"TruckPlatoonsModel", "limitAt", "(II)I"⟩ ∈ lw_big := x_t8 (List.mem_of_getElem? (i := 120) rfl) rfl
theorem w_8_122 : Cond.instanceMethod ⟨"TruckPlatoonsModel", "limitAt", "(II)I"⟩ ∈ lw_big := x_t8 (List.mem_of_getElem? (i := 122) rfl) rfl
theorem w_8_123 : Cond.code ⟨"TruckPlatoonsModel", "limitAt", "(II)I"⟩ prog_13_method_22_code 3 (Option.some FieldType.int) ∈ lw_big := x_t8 (List.mem_of_getElem? (i := 123) rfl) rfl
theorem w_8_124 : Cond.methodLink "TruckPlatoonsLaw" 193 ⟨"TruckPlatoonsModel", "setWait", "(III)I"⟩ ∈ lw_big := x_t8 (List.mem_of_getElem? (i := 124) rfl) rfl
theorem w_8_125 : Cond.instanceMethod ⟨"TruckPlatoonsModel", "setWait", "(III)I"⟩ ∈ lw_big := x_t8 (List.mem_of_getElem? (i := 125) rfl) rfl
theorem w_8_126 : Cond.selects "TruckPlatoonsModel" ⟨"TruckPlatoonsModel", "setWait", "(III)I"⟩ ⟨"TruckPlatoonsModel", "setWait", "(III)I"⟩ ∈ lw_big := x_t8 (List.mem_of_getElem? (i := 126) rfl) rfl
theorem w_8_127 : Cond.code ⟨"TruckPlatoonsModel", "setWait", "(III)I"⟩ prog_13_method_78_code 4 (Option.some FieldType.int) ∈ lw_big := x_t8 (List.mem_of_getElem? (i := 127) rfl) rfl
theorem w_8_128 : Cond.constantLong "TruckPlatoonsModel" 289 (120 : Int64) ∈ lw_big := x_t8 (List.mem_of_getElem? (i := 128) rfl) rfl
theorem w_8_129 : Cond.methodLink "TruckPlatoonsModel" 291 ⟨"TruckPlatoonsModel", "setWaitNow", "(III)I"⟩ ∈ lw_big := x_t8 (List.mem_of_getElem? (i := 129) rfl) rfl
theorem w_8_131 : Cond.instanceMethod ⟨"TruckPlatoonsModel", "setWaitNow", "(III)I"⟩ ∈ lw_big := x_t8 (List.mem_of_getElem? (i := 131) rfl) rfl
theorem w_8_132 : Cond.code ⟨"TruckPlatoonsModel", "setWaitNow", "(III)I"⟩ prog_13_method_77_code 5 (Option.some FieldType.int) ∈ lw_big := x_t8 (List.mem_of_getElem? (i := 132) rfl) rfl
theorem w_8_133 : Cond.methodLink "TruckPlatoonsModel" 286 ⟨"TruckPlatoonsModel", "keep", "()V"⟩ ∈ lw_big := x_t8 (List.mem_of_getElem? (i := 133) rfl) rfl
theorem w_8_135 : Cond.instanceMethod ⟨"TruckPlatoonsModel", "keep", "()V"⟩ ∈ lw_big := x_t8 (List.mem_of_getElem? (i := 135) rfl) rfl
theorem w_8_136 : Cond.code ⟨"TruckPlatoonsModel", "keep", "()V"⟩ prog_13_method_8_code 1 (Option.none : Option Jvm.ClassFile.FieldType) ∈ lw_big := x_t8 (List.mem_of_getElem? (i := 136) rfl) rfl
theorem w_8_137 : Cond.methodLink "TruckPlatoonsLaw" 196 ⟨"TruckPlatoonsModel", "setSpeed", "(III)I"⟩ ∈ lw_big := x_t8 (List.mem_of_getElem? (i := 137) rfl) rfl
theorem w_8_138 : Cond.instanceMethod ⟨"TruckPlatoonsModel", "setSpeed", "(III)I"⟩ ∈ lw_big := x_t8 (List.mem_of_getElem? (i := 138) rfl) rfl
theorem w_8_139 : Cond.selects "TruckPlatoonsModel" ⟨"TruckPlatoonsModel", "setSpeed", "(III)I"⟩ ⟨"TruckPlatoonsModel", "setSpeed", "(III)I"⟩ ∈ lw_big := x_t8 (List.mem_of_getElem? (i := 139) rfl) rfl
theorem w_8_140 : Cond.code ⟨"TruckPlatoonsModel", "setSpeed", "(III)I"⟩ prog_13_method_80_code 4 (Option.some FieldType.int) ∈ lw_big := x_t8 (List.mem_of_getElem? (i := 140) rfl) rfl
theorem w_8_141 : Cond.constantLong "TruckPlatoonsModel" 294 (40 : Int64) ∈ lw_big := x_t8 (List.mem_of_getElem? (i := 141) rfl) rfl
theorem w_8_142 : Cond.methodLink "TruckPlatoonsModel" 296 ⟨"TruckPlatoonsModel", "setSpeedNow", "(III)I"⟩ ∈ lw_big := x_t8 (List.mem_of_getElem? (i := 142) rfl) rfl
theorem w_8_144 : Cond.instanceMethod ⟨"TruckPlatoonsModel", "setSpeedNow", "(III)I"⟩ ∈ lw_big := x_t8 (List.mem_of_getElem? (i := 144) rfl) rfl
theorem w_8_145 : Cond.code ⟨"TruckPlatoonsModel", "setSpeedNow", "(III)I"⟩ prog_13_method_79_code 5 (Option.some FieldType.int) ∈ lw_big := x_t8 (List.mem_of_getElem? (i := 145) rfl) rfl
theorem w_8_146 : Cond.methodLink "TruckPlatoonsLaw" 199 ⟨"TruckPlatoonsModel", "setStart", "(II)I"⟩ ∈ lw_big := x_t8 (List.mem_of_getElem? (i := 146) rfl) rfl
theorem w_8_147 : Cond.instanceMethod ⟨"TruckPlatoonsModel", "setStart", "(II)I"⟩ ∈ lw_big := x_t8 (List.mem_of_getElem? (i := 147) rfl) rfl
theorem w_8_148 : Cond.selects "TruckPlatoonsModel" ⟨"TruckPlatoonsModel", "setStart", "(II)I"⟩ ⟨"TruckPlatoonsModel", "setStart", "(II)I"⟩ ∈ lw_big := x_t8 (List.mem_of_getElem? (i := 148) rfl) rfl
theorem w_8_149 : Cond.code ⟨"TruckPlatoonsModel", "setStart", "(II)I"⟩ prog_13_method_82_code 3 (Option.some FieldType.int) ∈ lw_big := x_t8 (List.mem_of_getElem? (i := 149) rfl) rfl
theorem w_8_150 : Cond.constantLong "TruckPlatoonsModel" 299 (2000 : Int64) ∈ lw_big := x_t8 (List.mem_of_getElem? (i := 150) rfl) rfl
theorem w_8_151 : Cond.methodLink "TruckPlatoonsModel" 301 ⟨"TruckPlatoonsModel", "setStartNow", "(II)I"⟩ ∈ lw_big := x_t8 (List.mem_of_getElem? (i := 151) rfl) rfl
theorem w_8_153 : Cond.instanceMethod ⟨"TruckPlatoonsModel", "setStartNow", "(II)I"⟩ ∈ lw_big := x_t8 (List.mem_of_getElem? (i := 153) rfl) rfl
theorem w_8_154 : Cond.code ⟨"TruckPlatoonsModel", "setStartNow", "(II)I"⟩ prog_13_method_81_code 4 (Option.some FieldType.int) ∈ lw_big := x_t8 (List.mem_of_getElem? (i := 154) rfl) rfl
theorem w_8_155 : Cond.methodLink "TruckPlatoonsLaw" 202 ⟨"TruckPlatoonsModel", "reason", "(II)I"⟩ ∈ lw_big := x_t8 (List.mem_of_getElem? (i := 155) rfl) rfl
theorem w_8_156 : Cond.instanceMethod ⟨"TruckPlatoonsModel", "reason", "(II)I"⟩ ∈ lw_big := x_t8 (List.mem_of_getElem? (i := 156) rfl) rfl
theorem w_8_157 : Cond.selects "TruckPlatoonsModel" ⟨"TruckPlatoonsModel", "reason", "(II)I"⟩ ⟨"TruckPlatoonsModel", "reason", "(II)I"⟩ ∈ lw_big := x_t8 (List.mem_of_getElem? (i := 157) rfl) rfl
theorem w_8_158 : Cond.code ⟨"TruckPlatoonsModel", "reason", "(II)I"⟩ prog_13_method_86_code 3 (Option.some FieldType.int) ∈ lw_big := x_t8 (List.mem_of_getElem? (i := 158) rfl) rfl
theorem w_8_159 : Cond.methodLink "TruckPlatoonsModel" 315 ⟨"TruckPlatoonsModel", "reasonNow", "(II)I"⟩ ∈ lw_big := x_t8 (List.mem_of_getElem? (i := 159) rfl) rfl
theorem w_8_161 : Cond.instanceMethod ⟨"TruckPlatoonsModel", "reasonNow", "(II)I"⟩ ∈ lw_big := x_t8 (List.mem_of_getElem? (i := 161) rfl) rfl
theorem w_8_162 : Cond.code ⟨"TruckPlatoonsModel", "reasonNow", "(II)I"⟩ prog_13_method_85_code 3 (Option.some FieldType.int) ∈ lw_big := x_t8 (List.mem_of_getElem? (i := 162) rfl) rfl
theorem w_8_163 : Cond.constantLong "TruckPlatoonsModel" 310 (-120 : Int64) ∈ lw_big := x_t8 (List.mem_of_getElem? (i := 163) rfl) rfl
theorem w_8_164 : Cond.methodLink "TruckPlatoonsModel" 312 ⟨"TruckPlatoonsModel", "lateness", "(II)I"⟩ ∈ lw_big := x_t8 (List.mem_of_getElem? (i := 164) rfl) rfl
theorem w_8_166 : Cond.instanceMethod ⟨"TruckPlatoonsModel", "lateness", "(II)I"⟩ ∈ lw_big := x_t8 (List.mem_of_getElem? (i := 166) rfl) rfl
theorem w_8_167 : Cond.code ⟨"TruckPlatoonsModel", "lateness", "(II)I"⟩ prog_13_method_84_code 6 (Option.some FieldType.int) ∈ lw_big := x_t8 (List.mem_of_getElem? (i := 167) rfl) rfl
theorem w_8_168 : Cond.methodLink "TruckPlatoonsModel" 307 ⟨"TruckPlatoonsModel", "joinRun", "(II)V"⟩ ∈ lw_big := x_t8 (List.mem_of_getElem? (i := 168) rfl) rfl
theorem w_8_170 : Cond.instanceMethod ⟨"TruckPlatoonsModel", "joinRun", "(II)V"⟩ ∈ lw_big := x_t8 (List.mem_of_getElem? (i := 170) rfl) rfl
theorem w_8_171 : Cond.code ⟨"TruckPlatoonsModel", "joinRun", "(II)V"⟩ prog_13_method_83_code 8 (Option.none : Option Jvm.ClassFile.FieldType) ∈ lw_big := x_t8 (List.mem_of_getElem? (i := 171) rfl) rfl
theorem w_8_172 : Cond.methodLink "TruckPlatoonsModel" 304 ⟨"TruckPlatoonsModel", "min", "(II)I"⟩ ∈ lw_big := x_t8 (List.mem_of_getElem? (i := 172) rfl) rfl
theorem w_8_173 : Cond.static ⟨"TruckPlatoonsModel", "min", "(II)I"⟩ ∈ lw_big := x_t8 (List.mem_of_getElem? (i := 173) rfl) rfl
theorem w_8_174 : Cond.code ⟨"TruckPlatoonsModel", "min", "(II)I"⟩ prog_13_method_6_code 2 (Option.some FieldType.int) ∈ lw_big := x_t8 (List.mem_of_getElem? (i := 174) rfl) rfl
theorem w_8_175 : Cond.methodLink "TruckPlatoonsLaw" 205 ⟨"TruckPlatoonsModel", "merge", "(II)I"⟩ ∈ lw_big := x_t8 (List.mem_of_getElem? (i := 175) rfl) rfl
theorem w_8_176 : Cond.instanceMethod ⟨"TruckPlatoonsModel", "merge", "(II)I"⟩ ∈ lw_big := x_t8 (List.mem_of_getElem? (i := 176) rfl) rfl
theorem w_8_177 : Cond.selects "TruckPlatoonsModel" ⟨"TruckPlatoonsModel", "merge", "(II)I"⟩ ⟨"TruckPlatoonsModel", "merge", "(II)I"⟩ ∈ lw_big := x_t8 (List.mem_of_getElem? (i := 177) rfl) rfl
theorem w_8_178 : Cond.code ⟨"TruckPlatoonsModel", "merge", "(II)I"⟩ prog_13_method_88_code 3 (Option.some FieldType.int) ∈ lw_big := x_t8 (List.mem_of_getElem? (i := 178) rfl) rfl
theorem w_8_179 : Cond.methodLink "TruckPlatoonsModel" 318 ⟨"TruckPlatoonsModel", "mergeNow", "(II)I"⟩ ∈ lw_big := x_t8 (List.mem_of_getElem? (i := 179) rfl) rfl
theorem w_8_181 : Cond.instanceMethod ⟨"TruckPlatoonsModel", "mergeNow", "(II)I"⟩ ∈ lw_big := x_t8 (List.mem_of_getElem? (i := 181) rfl) rfl
theorem w_8_182 : Cond.code ⟨"TruckPlatoonsModel", "mergeNow", "(II)I"⟩ prog_13_method_87_code 3 (Option.some FieldType.int) ∈ lw_big := x_t8 (List.mem_of_getElem? (i := 182) rfl) rfl
theorem w_8_183 : Cond.methodLink "TruckPlatoonsLaw" 208 ⟨"TruckPlatoonsModel", "gain", "(II)I"⟩ ∈ lw_big := x_t8 (List.mem_of_getElem? (i := 183) rfl) rfl
theorem w_8_184 : Cond.instanceMethod ⟨"TruckPlatoonsModel", "gain", "(II)I"⟩ ∈ lw_big := x_t8 (List.mem_of_getElem? (i := 184) rfl) rfl
theorem w_8_185 : Cond.selects "TruckPlatoonsModel" ⟨"TruckPlatoonsModel", "gain", "(II)I"⟩ ⟨"TruckPlatoonsModel", "gain", "(II)I"⟩ ∈ lw_big := x_t8 (List.mem_of_getElem? (i := 185) rfl) rfl
theorem w_8_186 : Cond.code ⟨"TruckPlatoonsModel", "gain", "(II)I"⟩ prog_13_method_90_code 4 (Option.some FieldType.int) ∈ lw_big := x_t8 (List.mem_of_getElem? (i := 186) rfl) rfl
theorem w_8_187 : Cond.methodLink "TruckPlatoonsModel" 321 ⟨"TruckPlatoonsModel", "gainNow", "(III)I"⟩ ∈ lw_big := x_t8 (List.mem_of_getElem? (i := 187) rfl) rfl
theorem w_8_189 : Cond.instanceMethod ⟨"TruckPlatoonsModel", "gainNow", "(III)I"⟩ ∈ lw_big := x_t8 (List.mem_of_getElem? (i := 189) rfl) rfl
theorem w_8_190 : Cond.code ⟨"TruckPlatoonsModel", "gainNow", "(III)I"⟩ prog_13_method_89_code 6 (Option.some FieldType.int) ∈ lw_big := x_t8 (List.mem_of_getElem? (i := 190) rfl) rfl
theorem w_8_191 : Cond.methodLink "TruckPlatoonsLaw" 211 ⟨"TruckPlatoonsModel", "bestPartner", "(I)I"⟩ ∈ lw_big := x_t8 (List.mem_of_getElem? (i := 191) rfl) rfl
theorem w_8_192 : Cond.instanceMethod ⟨"TruckPlatoonsModel", "bestPartner", "(I)I"⟩ ∈ lw_big := x_t8 (List.mem_of_getElem? (i := 192) rfl) rfl
theorem w_8_193 : Cond.selects "TruckPlatoonsModel" ⟨"TruckPlatoonsModel", "bestPartner", "(I)I"⟩ ⟨"TruckPlatoonsModel", "bestPartner", "(I)I"⟩ ∈ lw_big := x_t8 (List.mem_of_getElem? (i := 193) rfl) rfl
theorem w_8_194 : Cond.code ⟨"TruckPlatoonsModel", "bestPartner", "(I)I"⟩ prog_13_method_91_code 7 (Option.some FieldType.int) ∈ lw_big := x_t8 (List.mem_of_getElem? (i := 194) rfl) rfl
theorem w_8_195 : Cond.methodLink "TruckPlatoonsLaw" 215 ⟨"TruckPlatoonsModel", "mergeAll", "()I"⟩ ∈ lw_big := x_t8 (List.mem_of_getElem? (i := 195) rfl) rfl
theorem w_8_196 : Cond.instanceMethod ⟨"TruckPlatoonsModel", "mergeAll", "()I"⟩ ∈ lw_big := x_t8 (List.mem_of_getElem? (i := 196) rfl) rfl
theorem w_8_197 : Cond.selects "TruckPlatoonsModel" ⟨"TruckPlatoonsModel", "mergeAll", "()I"⟩ ⟨"TruckPlatoonsModel", "mergeAll", "()I"⟩ ∈ lw_big := x_t8 (List.mem_of_getElem? (i := 197) rfl) rfl
theorem w_8_198 : Cond.code ⟨"TruckPlatoonsModel", "mergeAll", "()I"⟩ prog_13_method_94_code 1 (Option.some FieldType.int) ∈ lw_big := x_t8 (List.mem_of_getElem? (i := 198) rfl) rfl
theorem w_8_199 : Cond.methodLink "TruckPlatoonsModel" 328 ⟨"TruckPlatoonsModel", "mergeAllNow", "()I"⟩ ∈ lw_big := x_t8 (List.mem_of_getElem? (i := 199) rfl) rfl
theorem w_8_201 : Cond.instanceMethod ⟨"TruckPlatoonsModel", "mergeAllNow", "()I"⟩ ∈ lw_big := x_t8 (List.mem_of_getElem? (i := 201) rfl) rfl
theorem w_8_202 : Cond.code ⟨"TruckPlatoonsModel", "mergeAllNow", "()I"⟩ prog_13_method_93_code 2 (Option.some FieldType.int) ∈ lw_big := x_t8 (List.mem_of_getElem? (i := 202) rfl) rfl
theorem w_8_203 : Cond.methodLink "TruckPlatoonsModel" 324 ⟨"TruckPlatoonsModel", "mergedBest", "()Z"⟩ ∈ lw_big := x_t8 (List.mem_of_getElem? (i := 203) rfl) rfl
theorem w_8_205 : Cond.instanceMethod ⟨"TruckPlatoonsModel", "mergedBest", "()Z"⟩ ∈ lw_big := x_t8 (List.mem_of_getElem? (i := 205) rfl) rfl
theorem w_8_206 : Cond.code ⟨"TruckPlatoonsModel", "mergedBest", "()Z"⟩ prog_13_method_92_code 8 (Option.some FieldType.boolean) ∈ lw_big := x_t8 (List.mem_of_getElem? (i := 206) rfl) rfl
theorem w_8_207 : Cond.methodLink "TruckPlatoonsLaw" 218 ⟨"TruckPlatoonsModel", "hurry", "(I)I"⟩ ∈ lw_big := x_t8 (List.mem_of_getElem? (i := 207) rfl) rfl
theorem w_8_208 : Cond.instanceMethod ⟨"TruckPlatoonsModel", "hurry", "(I)I"⟩ ∈ lw_big := x_t8 (List.mem_of_getElem? (i := 208) rfl) rfl
theorem w_8_209 : Cond.selects "TruckPlatoonsModel" ⟨"TruckPlatoonsModel", "hurry", "(I)I"⟩ ⟨"TruckPlatoonsModel", "hurry", "(I)I"⟩ ∈ lw_big := x_t8 (List.mem_of_getElem? (i := 209) rfl) rfl
theorem w_8_210 : Cond.code ⟨"TruckPlatoonsModel", "hurry", "(I)I"⟩ prog_13_method_96_code 2 (Option.some FieldType.int) ∈ lw_big := x_t8 (List.mem_of_getElem? (i := 210) rfl) rfl
theorem w_8_211 : Cond.methodLink "TruckPlatoonsModel" 331 ⟨"TruckPlatoonsModel", "hurryNow", "(I)I"⟩ ∈ lw_big := x_t8 (List.mem_of_getElem? (i := 211) rfl) rfl
theorem w_8_213 : Cond.instanceMethod ⟨"TruckPlatoonsModel", "hurryNow", "(I)I"⟩ ∈ lw_big := x_t8 (List.mem_of_getElem? (i := 213) rfl) rfl
theorem w_8_214 : Cond.code ⟨"TruckPlatoonsModel", "hurryNow", "(I)I"⟩ prog_13_method_95_code 4 (Option.some FieldType.int) ∈ lw_big := x_t8 (List.mem_of_getElem? (i := 214) rfl) rfl
theorem w_8_215 : Cond.methodLink "TruckPlatoonsLaw" 221 ⟨"TruckPlatoonsModel", "relax", "(I)I"⟩ ∈ lw_big := x_t8 (List.mem_of_getElem? (i := 215) rfl) rfl
theorem w_8_216 : Cond.instanceMethod ⟨"TruckPlatoonsModel", "relax", "(I)I"⟩ ∈ lw_big := x_t8 (List.mem_of_getElem? (i := 216) rfl) rfl
theorem w_8_217 : Cond.selects "TruckPlatoonsModel" ⟨"TruckPlatoonsModel", "relax", "(I)I"⟩ ⟨"TruckPlatoonsModel", "relax", "(I)I"⟩ ∈ lw_big := x_t8 (List.mem_of_getElem? (i := 217) rfl) rfl
theorem w_8_218 : Cond.code ⟨"TruckPlatoonsModel", "relax", "(I)I"⟩ prog_13_method_98_code 2 (Option.some FieldType.int) ∈ lw_big := x_t8 (List.mem_of_getElem? (i := 218) rfl) rfl
theorem w_8_219 : Cond.methodLink "TruckPlatoonsModel" 334 ⟨"TruckPlatoonsModel", "relaxNow", "(I)I"⟩ ∈ lw_big := x_t8 (List.mem_of_getElem? (i := 219) rfl) rfl
theorem w_8_221 : Cond.instanceMethod ⟨"TruckPlatoonsModel", "relaxNow", "(I)I"⟩ ∈ lw_big := x_t8 (List.mem_of_getElem? (i := 221) rfl) rfl
theorem w_8_222 : Cond.code ⟨"TruckPlatoonsModel", "relaxNow", "(I)I"⟩ prog_13_method_97_code 6 (Option.some FieldType.int) ∈ lw_big := x_t8 (List.mem_of_getElem? (i := 222) rfl) rfl
theorem w_8_223 : Cond.methodLink "TruckPlatoonsLaw" 224 ⟨"TruckPlatoonsModel", "onRoad", "(II)I"⟩ ∈ lw_big := x_t8 (List.mem_of_getElem? (i := 223) rfl) rfl
theorem w_8_224 : Cond.instanceMethod ⟨"TruckPlatoonsModel", "onRoad", "(II)I"⟩ ∈ lw_big := x_t8 (List.mem_of_getElem? (i := 224) rfl) rfl
theorem w_8_225 : Cond.selects "TruckPlatoonsModel" ⟨"TruckPlatoonsModel", "onRoad", "(II)I"⟩ ⟨"TruckPlatoonsModel", "onRoad", "(II)I"⟩ ∈ lw_big := x_t8 (List.mem_of_getElem? (i := 225) rfl) rfl
theorem w_8_226 : Cond.code ⟨"TruckPlatoonsModel", "onRoad", "(II)I"⟩ prog_13_method_99_code 6 (Option.some FieldType.int) ∈ lw_big := x_t8 (List.mem_of_getElem? (i := 226) rfl) rfl
theorem w_8_227 : Cond.methodLink "TruckPlatoonsLaw" 228 ⟨"TruckPlatoonsModel", "alone", "()I"⟩ ∈ lw_big := x_t8 (List.mem_of_getElem? (i := 227) rfl) rfl
theorem w_8_228 : Cond.instanceMethod ⟨"TruckPlatoonsModel", "alone", "()I"⟩ ∈ lw_big := x_t8 (List.mem_of_getElem? (i := 228) rfl) rfl
theorem w_8_229 : Cond.selects "TruckPlatoonsModel" ⟨"TruckPlatoonsModel", "alone", "()I"⟩ ⟨"TruckPlatoonsModel", "alone", "()I"⟩ ∈ lw_big := x_t8 (List.mem_of_getElem? (i := 229) rfl) rfl
theorem w_8_230 : Cond.code ⟨"TruckPlatoonsModel", "alone", "()I"⟩ prog_13_method_100_code 5 (Option.some FieldType.int) ∈ lw_big := x_t8 (List.mem_of_getElem? (i := 230) rfl) rfl
theorem w_8_231 : Cond.methodLink "TruckPlatoonsLaw" 232 ⟨"TruckPlatoonsModel", "lateOnes", "()I"⟩ ∈ lw_big := x_t8 (List.mem_of_getElem? (i := 231) rfl) rfl
theorem w_8_232 : Cond.instanceMethod ⟨"TruckPlatoonsModel", "lateOnes", "()I"⟩ ∈ lw_big := x_t8 (List.mem_of_getElem? (i := 232) rfl) rfl
theorem w_8_233 : Cond.selects "TruckPlatoonsModel" ⟨"TruckPlatoonsModel", "lateOnes", "()I"⟩ ⟨"TruckPlatoonsModel", "lateOnes", "()I"⟩ ∈ lw_big := x_t8 (List.mem_of_getElem? (i := 233) rfl) rfl
theorem w_8_234 : Cond.code ⟨"TruckPlatoonsModel", "lateOnes", "()I"⟩ prog_13_method_101_code 1 (Option.some FieldType.int) ∈ lw_big := x_t8 (List.mem_of_getElem? (i := 234) rfl) rfl
theorem w_8_235 : Cond.methodLink "TruckPlatoonsLaw" 236 ⟨"TruckPlatoonsModel", "bestRoad", "()I"⟩ ∈ lw_big := x_t8 (List.mem_of_getElem? (i := 235) rfl) rfl
theorem w_8_236 : Cond.instanceMethod ⟨"TruckPlatoonsModel", "bestRoad", "()I"⟩ ∈ lw_big := x_t8 (List.mem_of_getElem? (i := 236) rfl) rfl
theorem w_8_237 : Cond.selects "TruckPlatoonsModel" ⟨"TruckPlatoonsModel", "bestRoad", "()I"⟩ ⟨"TruckPlatoonsModel", "bestRoad", "()I"⟩ ∈ lw_big := x_t8 (List.mem_of_getElem? (i := 237) rfl) rfl
theorem w_8_238 : Cond.code ⟨"TruckPlatoonsModel", "bestRoad", "()I"⟩ prog_13_method_103_code 4 (Option.some FieldType.int) ∈ lw_big := x_t8 (List.mem_of_getElem? (i := 238) rfl) rfl
theorem w_8_239 : Cond.methodLink "TruckPlatoonsModel" 337 ⟨"TruckPlatoonsModel", "savedOn", "(I)I"⟩ ∈ lw_big := x_t8 (List.mem_of_getElem? (i := 239) rfl) rfl
theorem w_9_1 : Cond.instanceMethod ⟨"TruckPlatoonsModel", "savedOn", "(I)I"⟩ ∈ lw_big := x_t9 (List.mem_of_getElem? (i := 1) rfl) rfl
theorem w_9_2 : Cond.code ⟨"TruckPlatoonsModel", "savedOn", "(I)I"⟩ prog_13_method_102_code 5 (Option.some FieldType.int) ∈ lw_big := x_t9 (List.mem_of_getElem? (i := 2) rfl) rfl
theorem w_9_3 : Cond.methodLink "TruckPlatoonsLaw" 239 ⟨"TruckPlatoonsModel", "orderLoss", "(II)I"⟩ ∈ lw_big := x_t9 (List.mem_of_getElem? (i := 3) rfl) rfl
theorem w_9_4 : Cond.instanceMethod ⟨"TruckPlatoonsModel", "orderLoss", "(II)I"⟩ ∈ lw_big := x_t9 (List.mem_of_getElem? (i := 4) rfl) rfl
theorem w_9_5 : Cond.selects "TruckPlatoonsModel" ⟨"TruckPlatoonsModel", "orderLoss", "(II)I"⟩ ⟨"TruckPlatoonsModel", "orderLoss", "(II)I"⟩ ∈ lw_big := x_t9 (List.mem_of_getElem? (i := 5) rfl) rfl
theorem w_9_6 : Cond.code ⟨"TruckPlatoonsModel", "orderLoss", "(II)I"⟩ prog_13_method_111_code 4 (Option.some FieldType.int) ∈ lw_big := x_t9 (List.mem_of_getElem? (i := 6) rfl) rfl
theorem w_9_7 : Cond.methodLink "TruckPlatoonsModel" 359 ⟨"TruckPlatoonsModel", "isLong", "()Z"⟩ ∈ lw_big := x_t9 (List.mem_of_getElem? (i := 7) rfl) rfl
theorem w_9_9 : Cond.instanceMethod ⟨"TruckPlatoonsModel", "isLong", "()Z"⟩ ∈ lw_big := x_t9 (List.mem_of_getElem? (i := 9) rfl) rfl
theorem w_9_10 : Cond.code ⟨"TruckPlatoonsModel", "isLong", "()Z"⟩ prog_13_method_110_code 1 (Option.some FieldType.boolean) ∈ lw_big := x_t9 (List.mem_of_getElem? (i := 10) rfl) rfl
theorem w_9_11 : Cond.methodLink "TruckPlatoonsModel" 362 ⟨"TruckPlatoonsModel", "layBest", "()I"⟩ ∈ lw_big := x_t9 (List.mem_of_getElem? (i := 11) rfl) rfl
theorem w_9_13 : Cond.instanceMethod ⟨"TruckPlatoonsModel", "layBest", "()I"⟩ ∈ lw_big := x_t9 (List.mem_of_getElem? (i := 13) rfl) rfl
theorem w_9_14 : Cond.code ⟨"TruckPlatoonsModel", "layBest", "()I"⟩ prog_13_method_109_code 6 (Option.some FieldType.int) ∈ lw_big := x_t9 (List.mem_of_getElem? (i := 14) rfl) rfl
theorem w_9_15 : Cond.methodLink "TruckPlatoonsModel" 346 ⟨"TruckPlatoonsModel", "worth", "(I)I"⟩ ∈ lw_big := x_t9 (List.mem_of_getElem? (i := 15) rfl) rfl
theorem w_9_17 : Cond.instanceMethod ⟨"TruckPlatoonsModel", "worth", "(I)I"⟩ ∈ lw_big := x_t9 (List.mem_of_getElem? (i := 17) rfl) rfl
theorem w_9_18 : Cond.code ⟨"TruckPlatoonsModel", "worth", "(I)I"⟩ prog_13_method_104_code 4 (Option.some FieldType.int) ∈ lw_big := x_t9 (List.mem_of_getElem? (i := 18) rfl) rfl
theorem w_9_19 : Cond.methodLink "TruckPlatoonsModel" 352 ⟨"TruckPlatoonsModel", "meetTurn", "(IZ)V"⟩ ∈ lw_big := x_t9 (List.mem_of_getElem? (i := 19) rfl) rfl
theorem w_9_21 : Cond.instanceMethod ⟨"TruckPlatoonsModel", "meetTurn", "(IZ)V"⟩ ∈ lw_big := x_t9 (List.mem_of_getElem? (i := 21) rfl) rfl
theorem w_9_22 : Cond.code ⟨"TruckPlatoonsModel", "meetTurn", "(IZ)V"⟩ prog_13_method_108_code 5 (Option.none : Option Jvm.ClassFile.FieldType) ∈ lw_big := x_t9 (List.mem_of_getElem? (i := 22) rfl) rfl
theorem w_9_23 : Cond.methodLink "TruckPlatoonsModel" 343 ⟨"TruckPlatoonsModel", "layTurns", "(I)V"⟩ ∈ lw_big := x_t9 (List.mem_of_getElem? (i := 23) rfl) rfl
theorem w_9_25 : Cond.instanceMethod ⟨"TruckPlatoonsModel", "layTurns", "(I)V"⟩ ∈ lw_big := x_t9 (List.mem_of_getElem? (i := 25) rfl) rfl
theorem w_9_26 : Cond.code ⟨"TruckPlatoonsModel", "layTurns", "(I)V"⟩ prog_13_method_107_code 3 (Option.none : Option Jvm.ClassFile.FieldType) ∈ lw_big := x_t9 (List.mem_of_getElem? (i := 26) rfl) rfl
theorem w_9_27 : Cond.methodLink "TruckPlatoonsModel" 356 ⟨"TruckPlatoonsModel", "nextTurn", "(I)Z"⟩ ∈ lw_big := x_t9 (List.mem_of_getElem? (i := 27) rfl) rfl
theorem w_9_29 : Cond.instanceMethod ⟨"TruckPlatoonsModel", "nextTurn", "(I)Z"⟩ ∈ lw_big := x_t9 (List.mem_of_getElem? (i := 29) rfl) rfl
theorem w_9_30 : Cond.code ⟨"TruckPlatoonsModel", "nextTurn", "(I)Z"⟩ prog_13_method_105_code 5 (Option.some FieldType.boolean) ∈ lw_big := x_t9 (List.mem_of_getElem? (i := 30) rfl) rfl
theorem w_9_31 : Cond.methodLink "TruckPlatoonsModel" 340 ⟨"TruckPlatoonsModel", "swapTurns", "(II)V"⟩ ∈ lw_big := x_t9 (List.mem_of_getElem? (i := 31) rfl) rfl
theorem w_9_33 : Cond.instanceMethod ⟨"TruckPlatoonsModel", "swapTurns", "(II)V"⟩ ∈ lw_big := x_t9 (List.mem_of_getElem? (i := 33) rfl) rfl
theorem w_9_34 : Cond.code ⟨"TruckPlatoonsModel", "swapTurns", "(II)V"⟩ prog_13_method_106_code 4 (Option.none : Option Jvm.ClassFile.FieldType) ∈ lw_big := x_t9 (List.mem_of_getElem? (i := 34) rfl) rfl
theorem w_9_35 : Cond.methodLink "TruckPlatoonsLaw" 242 ⟨"TruckPlatoonsModel", "bestMember", "(III)I"⟩ ∈ lw_big := x_t9 (List.mem_of_getElem? (i := 35) rfl) rfl
theorem w_9_36 : Cond.instanceMethod ⟨"TruckPlatoonsModel", "bestMember", "(III)I"⟩ ∈ lw_big := x_t9 (List.mem_of_getElem? (i := 36) rfl) rfl
theorem w_9_37 : Cond.selects "TruckPlatoonsModel" ⟨"TruckPlatoonsModel", "bestMember", "(III)I"⟩ ⟨"TruckPlatoonsModel", "bestMember", "(III)I"⟩ ∈ lw_big := x_t9 (List.mem_of_getElem? (i := 37) rfl) rfl
theorem w_9_38 : Cond.code ⟨"TruckPlatoonsModel", "bestMember", "(III)I"⟩ prog_13_method_112_code 5 (Option.some FieldType.int) ∈ lw_big := x_t9 (List.mem_of_getElem? (i := 38) rfl) rfl
theorem w_9_39 : Cond.methodLink "TruckPlatoonsLaw" 246 ⟨"TruckPlatoonsModel", "rate", "(I)F"⟩ ∈ lw_big := x_t9 (List.mem_of_getElem? (i := 39) rfl) rfl
theorem w_9_40 : Cond.instanceMethod ⟨"TruckPlatoonsModel", "rate", "(I)F"⟩ ∈ lw_big := x_t9 (List.mem_of_getElem? (i := 40) rfl) rfl
theorem w_9_41 : Cond.selects "TruckPlatoonsModel" ⟨"TruckPlatoonsModel", "rate", "(I)F"⟩ ⟨"TruckPlatoonsModel", "rate", "(I)F"⟩ ∈ lw_big := x_t9 (List.mem_of_getElem? (i := 41) rfl) rfl
theorem w_9_42 : Cond.code ⟨"TruckPlatoonsModel", "rate", "(I)F"⟩ prog_13_method_113_code 2 (Option.some FieldType.float) ∈ lw_big := x_t9 (List.mem_of_getElem? (i := 42) rfl) rfl
theorem w_9_43 : Cond.methodLink "TruckPlatoonsLaw" 250 ⟨"TruckPlatoonsModel", "shareBits", "()I"⟩ ∈ lw_big := x_t9 (List.mem_of_getElem? (i := 43) rfl) rfl
theorem w_9_44 : Cond.instanceMethod ⟨"TruckPlatoonsModel", "shareBits", "()I"⟩ ∈ lw_big := x_t9 (List.mem_of_getElem? (i := 44) rfl) rfl
theorem w_9_45 : Cond.selects "TruckPlatoonsModel" ⟨"TruckPlatoonsModel", "shareBits", "()I"⟩ ⟨"TruckPlatoonsModel", "shareBits", "()I"⟩ ∈ lw_big := x_t9 (List.mem_of_getElem? (i := 45) rfl) rfl
theorem w_9_46 : Cond.code ⟨"TruckPlatoonsModel", "shareBits", "()I"⟩ prog_13_method_114_code 1 (Option.some FieldType.int) ∈ lw_big := x_t9 (List.mem_of_getElem? (i := 46) rfl) rfl
theorem w_9_47 : Cond.methodLink "TruckPlatoonsModel" 365 ⟨"java/lang/Float", "floatToIntBits", "(F)I"⟩ ∈ lw_big := x_t9 (List.mem_of_getElem? (i := 47) rfl) rfl
theorem w_9_48 : Cond.static ⟨"java/lang/Float", "floatToIntBits", "(F)I"⟩ ∈ lw_big := x_t9 (List.mem_of_getElem? (i := 48) rfl) rfl
theorem w_9_49 : Cond.code ⟨"java/lang/Float", "floatToIntBits", "(F)I"⟩ prog_17_method_24_code 1 (Option.some FieldType.int) ∈ lw_big := x_t9 (List.mem_of_getElem? (i := 49) rfl) rfl
theorem w_9_50 : Cond.methodLink "java/lang/Float" 59 ⟨"java/lang/Float", "isNaN", "(F)Z"⟩ ∈ lw_big := x_t9 (List.mem_of_getElem? (i := 50) rfl) rfl
theorem w_9_51 : Cond.static ⟨"java/lang/Float", "isNaN", "(F)Z"⟩ ∈ lw_big := x_t9 (List.mem_of_getElem? (i := 51) rfl) rfl
theorem w_9_52 : Cond.code ⟨"java/lang/Float", "isNaN", "(F)Z"⟩ prog_17_method_6_code 1 (Option.some FieldType.boolean) ∈ lw_big := x_t9 (List.mem_of_getElem? (i := 52) rfl) rfl
theorem w_9_53 : Cond.methodLink "java/lang/Float" 74 ⟨"java/lang/Float", "floatToRawIntBits", "(F)I"⟩ ∈ lw_big := x_t9 (List.mem_of_getElem? (i := 53) rfl) rfl
theorem w_9_54 : Cond.static ⟨"java/lang/Float", "floatToRawIntBits", "(F)I"⟩ ∈ lw_big := x_t9 (List.mem_of_getElem? (i := 54) rfl) rfl
theorem w_9_55 : Cond.native ⟨"java/lang/Float", "floatToRawIntBits", "(F)I"⟩ ∈ lw_big := x_t9 (List.mem_of_getElem? (i := 55) rfl) rfl
theorem w_9_56 : Cond.constant "java/lang/Float" 77 (2143289344 : Int32) ∈ lw_big := x_t9 (List.mem_of_getElem? (i := 56) rfl) rfl
theorem w_9_57 : Cond.methodLink "TruckPlatoonsLaw" 253 ⟨"TruckPlatoonsModel", "quickest", "(II)I"⟩ ∈ lw_big := x_t9 (List.mem_of_getElem? (i := 57) rfl) rfl
theorem w_9_58 : Cond.instanceMethod ⟨"TruckPlatoonsModel", "quickest", "(II)I"⟩ ∈ lw_big := x_t9 (List.mem_of_getElem? (i := 58) rfl) rfl
theorem w_9_59 : Cond.selects "TruckPlatoonsModel" ⟨"TruckPlatoonsModel", "quickest", "(II)I"⟩ ⟨"TruckPlatoonsModel", "quickest", "(II)I"⟩ ∈ lw_big := x_t9 (List.mem_of_getElem? (i := 59) rfl) rfl
theorem w_9_60 : Cond.code ⟨"TruckPlatoonsModel", "quickest", "(II)I"⟩ prog_13_method_115_code 6 (Option.some FieldType.int) ∈ lw_big := x_t9 (List.mem_of_getElem? (i := 60) rfl) rfl
theorem w_9_61 : Cond.constantLong "TruckPlatoonsModel" 371 (19 : Int64) ∈ lw_big := x_t9 (List.mem_of_getElem? (i := 61) rfl) rfl
theorem w_9_62 : Cond.constant "TruckPlatoonsModel" 373 (1000000 : Int32) ∈ lw_big := x_t9 (List.mem_of_getElem? (i := 62) rfl) rfl
theorem w_9_63 : Cond.methodLink "TruckPlatoonsLaw" 272 ⟨"TruckPlatoonsModel", "digest", "()I"⟩ ∈ lw_big := x_t9 (List.mem_of_getElem? (i := 63) rfl) rfl
theorem w_9_64 : Cond.instanceMethod ⟨"TruckPlatoonsModel", "digest", "()I"⟩ ∈ lw_big := x_t9 (List.mem_of_getElem? (i := 64) rfl) rfl
theorem w_9_65 : Cond.selects "TruckPlatoonsModel" ⟨"TruckPlatoonsModel", "digest", "()I"⟩ ⟨"TruckPlatoonsModel", "digest", "()I"⟩ ∈ lw_big := x_t9 (List.mem_of_getElem? (i := 65) rfl) rfl
theorem w_9_66 : Cond.code ⟨"TruckPlatoonsModel", "digest", "()I"⟩ prog_13_method_116_code 4 (Option.some FieldType.int) ∈ lw_big := x_t9 (List.mem_of_getElem? (i := 66) rfl) rfl
theorem w_9_67 : Cond.methodLink "TruckPlatoonsLaw" 256 ⟨"TruckPlatoonsModel", "write", "(I)I"⟩ ∈ lw_big := x_t9 (List.mem_of_getElem? (i := 67) rfl) rfl
theorem w_9_68 : Cond.instanceMethod ⟨"TruckPlatoonsModel", "write", "(I)I"⟩ ∈ lw_big := x_t9 (List.mem_of_getElem? (i := 68) rfl) rfl
theorem w_9_69 : Cond.selects "TruckPlatoonsModel" ⟨"TruckPlatoonsModel", "write", "(I)I"⟩ ⟨"TruckPlatoonsModel", "write", "(I)I"⟩ ∈ lw_big := x_t9 (List.mem_of_getElem? (i := 69) rfl) rfl
theorem w_9_70 : Cond.code ⟨"TruckPlatoonsModel", "write", "(I)I"⟩ prog_13_method_119_code 4 (Option.some FieldType.int) ∈ lw_big := x_t9 (List.mem_of_getElem? (i := 70) rfl) rfl
theorem w_9_71 : Cond.methodLink "TruckPlatoonsModel" 377 ⟨"TruckPlatoonsModel", "put", "(I)V"⟩ ∈ lw_big := x_t9 (List.mem_of_getElem? (i := 71) rfl) rfl
theorem w_9_73 : Cond.instanceMethod ⟨"TruckPlatoonsModel", "put", "(I)V"⟩ ∈ lw_big := x_t9 (List.mem_of_getElem? (i := 73) rfl) rfl
theorem w_9_74 : Cond.code ⟨"TruckPlatoonsModel", "put", "(I)V"⟩ prog_13_method_117_code 2 (Option.none : Option Jvm.ClassFile.FieldType) ∈ lw_big := x_t9 (List.mem_of_getElem? (i := 74) rfl) rfl
theorem w_9_75 : Cond.methodLink "TruckPlatoonsModel" 380 ⟨"TruckPlatoonsModel", "putNumber", "(I)V"⟩ ∈ lw_big := x_t9 (List.mem_of_getElem? (i := 75) rfl) rfl
theorem w_9_77 : Cond.instanceMethod ⟨"TruckPlatoonsModel", "putNumber", "(I)V"⟩ ∈ lw_big := x_t9 (List.mem_of_getElem? (i := 77) rfl) rfl
theorem w_9_78 : Cond.code ⟨"TruckPlatoonsModel", "putNumber", "(I)V"⟩ prog_13_method_118_code 3 (Option.none : Option Jvm.ClassFile.FieldType) ∈ lw_big := x_t9 (List.mem_of_getElem? (i := 78) rfl) rfl
theorem w_9_79 : Cond.methodLink "TruckPlatoonsLaw" 260 ⟨"TruckPlatoonsModel", "outputByte", "(I)I"⟩ ∈ lw_big := x_t9 (List.mem_of_getElem? (i := 79) rfl) rfl
theorem w_9_80 : Cond.instanceMethod ⟨"TruckPlatoonsModel", "outputByte", "(I)I"⟩ ∈ lw_big := x_t9 (List.mem_of_getElem? (i := 80) rfl) rfl
theorem w_9_81 : Cond.selects "TruckPlatoonsModel" ⟨"TruckPlatoonsModel", "outputByte", "(I)I"⟩ ⟨"TruckPlatoonsModel", "outputByte", "(I)I"⟩ ∈ lw_big := x_t9 (List.mem_of_getElem? (i := 81) rfl) rfl
theorem w_9_82 : Cond.code ⟨"TruckPlatoonsModel", "outputByte", "(I)I"⟩ prog_13_method_120_code 2 (Option.some FieldType.int) ∈ lw_big := x_t9 (List.mem_of_getElem? (i := 82) rfl) rfl
theorem w_9_83 : Cond.methodLink "TruckPlatoonsLaw" 120 ⟨"TruckPlatoonsModel", "appendInput", "(IIIII)I"⟩ ∈ lw_big := x_t9 (List.mem_of_getElem? (i := 83) rfl) rfl
theorem w_9_84 : Cond.instanceMethod ⟨"TruckPlatoonsModel", "appendInput", "(IIIII)I"⟩ ∈ lw_big := x_t9 (List.mem_of_getElem? (i := 84) rfl) rfl
theorem w_9_85 : Cond.selects "TruckPlatoonsModel" ⟨"TruckPlatoonsModel", "appendInput", "(IIIII)I"⟩ ⟨"TruckPlatoonsModel", "appendInput", "(IIIII)I"⟩ ∈ lw_big := x_t9 (List.mem_of_getElem? (i := 85) rfl) rfl
theorem w_9_86 : Cond.code ⟨"TruckPlatoonsModel", "appendInput", "(IIIII)I"⟩ prog_13_method_122_code 6 (Option.some FieldType.int) ∈ lw_big := x_t9 (List.mem_of_getElem? (i := 86) rfl) rfl
theorem w_9_87 : Cond.methodLink "TruckPlatoonsModel" 386 ⟨"TruckPlatoonsModel", "appendBytes", "(I)V"⟩ ∈ lw_big := x_t9 (List.mem_of_getElem? (i := 87) rfl) rfl
theorem w_9_89 : Cond.instanceMethod ⟨"TruckPlatoonsModel", "appendBytes", "(I)V"⟩ ∈ lw_big := x_t9 (List.mem_of_getElem? (i := 89) rfl) rfl
theorem w_9_90 : Cond.code ⟨"TruckPlatoonsModel", "appendBytes", "(I)V"⟩ prog_13_method_121_code 3 (Option.none : Option Jvm.ClassFile.FieldType) ∈ lw_big := x_t9 (List.mem_of_getElem? (i := 90) rfl) rfl
theorem w_9_91 : Cond.methodLink "TruckPlatoonsLaw" 124 ⟨"TruckPlatoonsModel", "truncateInput", "(I)I"⟩ ∈ lw_big := x_t9 (List.mem_of_getElem? (i := 91) rfl) rfl
theorem w_9_92 : Cond.instanceMethod ⟨"TruckPlatoonsModel", "truncateInput", "(I)I"⟩ ∈ lw_big := x_t9 (List.mem_of_getElem? (i := 92) rfl) rfl
theorem w_9_93 : Cond.selects "TruckPlatoonsModel" ⟨"TruckPlatoonsModel", "truncateInput", "(I)I"⟩ ⟨"TruckPlatoonsModel", "truncateInput", "(I)I"⟩ ∈ lw_big := x_t9 (List.mem_of_getElem? (i := 93) rfl) rfl
theorem w_9_94 : Cond.code ⟨"TruckPlatoonsModel", "truncateInput", "(I)I"⟩ prog_13_method_123_code 2 (Option.some FieldType.int) ∈ lw_big := x_t9 (List.mem_of_getElem? (i := 94) rfl) rfl
theorem w_9_95 : Cond.methodLink "TruckPlatoonsLaw" 132 ⟨"TruckPlatoonsModel", "errorCode", "()I"⟩ ∈ lw_big := x_t9 (List.mem_of_getElem? (i := 95) rfl) rfl
theorem w_9_96 : Cond.instanceMethod ⟨"TruckPlatoonsModel", "errorCode", "()I"⟩ ∈ lw_big := x_t9 (List.mem_of_getElem? (i := 96) rfl) rfl
theorem w_9_97 : Cond.selects "TruckPlatoonsModel" ⟨"TruckPlatoonsModel", "errorCode", "()I"⟩ ⟨"TruckPlatoonsModel", "errorCode", "()I"⟩ ∈ lw_big := x_t9 (List.mem_of_getElem? (i := 97) rfl) rfl
theorem w_9_98 : Cond.code ⟨"TruckPlatoonsModel", "errorCode", "()I"⟩ prog_13_method_124_code 1 (Option.some FieldType.int) ∈ lw_big := x_t9 (List.mem_of_getElem? (i := 98) rfl) rfl
theorem w_9_99 : Cond.methodLink "TruckPlatoonsLaw" 136 ⟨"TruckPlatoonsModel", "errorPosition", "()I"⟩ ∈ lw_big := x_t9 (List.mem_of_getElem? (i := 99) rfl) rfl
theorem w_9_100 : Cond.instanceMethod ⟨"TruckPlatoonsModel", "errorPosition", "()I"⟩ ∈ lw_big := x_t9 (List.mem_of_getElem? (i := 100) rfl) rfl
theorem w_9_101 : Cond.selects "TruckPlatoonsModel" ⟨"TruckPlatoonsModel", "errorPosition", "()I"⟩ ⟨"TruckPlatoonsModel", "errorPosition", "()I"⟩ ∈ lw_big := x_t9 (List.mem_of_getElem? (i := 101) rfl) rfl
theorem w_9_102 : Cond.code ⟨"TruckPlatoonsModel", "errorPosition", "()I"⟩ prog_13_method_125_code 1 (Option.some FieldType.int) ∈ lw_big := x_t9 (List.mem_of_getElem? (i := 102) rfl) rfl
theorem w_9_103 : Cond.methodLink "TruckPlatoonsLaw" 128 ⟨"TruckPlatoonsModel", "load", "()I"⟩ ∈ lw_big := x_t9 (List.mem_of_getElem? (i := 103) rfl) rfl
theorem w_9_104 : Cond.instanceMethod ⟨"TruckPlatoonsModel", "load", "()I"⟩ ∈ lw_big := x_t9 (List.mem_of_getElem? (i := 104) rfl) rfl
theorem w_9_105 : Cond.selects "TruckPlatoonsModel" ⟨"TruckPlatoonsModel", "load", "()I"⟩ ⟨"TruckPlatoonsModel", "load", "()I"⟩ ∈ lw_big := x_t9 (List.mem_of_getElem? (i := 105) rfl) rfl
theorem w_9_106 : Cond.code ⟨"TruckPlatoonsModel", "load", "()I"⟩ prog_13_method_142_code 4 (Option.some FieldType.int) ∈ lw_big := x_t9 (List.mem_of_getElem? (i := 106) rfl) rfl
theorem w_9_107 : Cond.methodLink "TruckPlatoonsModel" 467 ⟨"TruckPlatoonsModel", "beginText", "()V"⟩ ∈ lw_big := x_t9 (List.mem_of_getElem? (i := 107) rfl) rfl
theorem w_9_109 : Cond.instanceMethod ⟨"TruckPlatoonsModel", "beginText", "()V"⟩ ∈ lw_big := x_t9 (List.mem_of_getElem? (i := 109) rfl) rfl
theorem w_9_110 : Cond.code ⟨"TruckPlatoonsModel", "beginText", "()V"⟩ prog_13_method_130_code 1 (Option.none : Option Jvm.ClassFile.FieldType) ∈ lw_big := x_t9 (List.mem_of_getElem? (i := 110) rfl) rfl
theorem w_9_111 : Cond.methodLink "TruckPlatoonsModel" 428 ⟨"TruckPlatoonsModel", "advance", "()V"⟩ ∈ lw_big := x_t9 (List.mem_of_getElem? (i := 111) rfl) rfl
theorem w_9_113 : Cond.instanceMethod ⟨"TruckPlatoonsModel", "advance", "()V"⟩ ∈ lw_big := x_t9 (List.mem_of_getElem? (i := 113) rfl) rfl
theorem w_9_114 : Cond.code ⟨"TruckPlatoonsModel", "advance", "()V"⟩ prog_13_method_129_code 2 (Option.none : Option Jvm.ClassFile.FieldType) ∈ lw_big := x_t9 (List.mem_of_getElem? (i := 114) rfl) rfl
theorem w_9_115 : Cond.methodLink "TruckPlatoonsModel" 403 ⟨"TruckPlatoonsModel", "byteAt", "(I)I"⟩ ∈ lw_big := x_t9 (List.mem_of_getElem? (i := 115) rfl) rfl
theorem w_9_117 : Cond.instanceMethod ⟨"TruckPlatoonsModel", "byteAt", "(I)I"⟩ ∈ lw_big := x_t9 (List.mem_of_getElem? (i := 117) rfl) rfl
theorem w_9_118 : Cond.code ⟨"TruckPlatoonsModel", "byteAt", "(I)I"⟩ prog_13_method_126_code 2 (Option.some FieldType.int) ∈ lw_big := x_t9 (List.mem_of_getElem? (i := 118) rfl) rfl
theorem w_9_119 : Cond.methodLink "TruckPlatoonsModel" 413 ⟨"TruckPlatoonsModel", "isLetter", "(I)Z"⟩ ∈ lw_big := x_t9 (List.mem_of_getElem? (i := 119) rfl) rfl
theorem w_9_120 : Cond.static ⟨"TruckPlatoonsModel", "isLetter", "(I)Z"⟩ ∈ lw_big := x_t9 (List.mem_of_getElem? (i := 120) rfl) rfl
theorem w_9_121 : Cond.code ⟨"TruckPlatoonsModel", "isLetter", "(I)Z"⟩ prog_13_method_127_code 1 (Option.some FieldType.boolean) ∈ lw_big := x_t9 (List.mem_of_getElem? (i := 121) rfl) rfl
theorem w_9_122 : Cond.constantLong "TruckPlatoonsModel" 392 (97 : Int64) ∈ lw_big := x_t9 (List.mem_of_getElem? (i := 122) rfl) rfl
theorem w_9_123 : Cond.constantLong "TruckPlatoonsModel" 394 (122 : Int64) ∈ lw_big := x_t9 (List.mem_of_getElem? (i := 123) rfl) rfl
theorem w_9_124 : Cond.methodLink "TruckPlatoonsModel" 416 ⟨"TruckPlatoonsModel", "isDigit", "(I)Z"⟩ ∈ lw_big := x_t9 (List.mem_of_getElem? (i := 124) rfl) rfl
theorem w_9_125 : Cond.static ⟨"TruckPlatoonsModel", "isDigit", "(I)Z"⟩ ∈ lw_big := x_t9 (List.mem_of_getElem? (i := 125) rfl) rfl
theorem w_9_126 : Cond.code ⟨"TruckPlatoonsModel", "isDigit", "(I)Z"⟩ prog_13_method_128_code 1 (Option.some FieldType.boolean) ∈ lw_big := x_t9 (List.mem_of_getElem? (i := 126) rfl) rfl
theorem w_9_127 : Cond.constantLong "TruckPlatoonsModel" 396 (48 : Int64) ∈ lw_big := x_t9 (List.mem_of_getElem? (i := 127) rfl) rfl
theorem w_9_128 : Cond.constantLong "TruckPlatoonsModel" 398 (57 : Int64) ∈ lw_big := x_t9 (List.mem_of_getElem? (i := 128) rfl) rfl
theorem w_9_129 : Cond.constantLong "TruckPlatoonsModel" 422 (32 : Int64) ∈ lw_big := x_t9 (List.mem_of_getElem? (i := 129) rfl) rfl
theorem w_9_130 : Cond.constantLong "TruckPlatoonsModel" 424 (96 : Int64) ∈ lw_big := x_t9 (List.mem_of_getElem? (i := 130) rfl) rfl
theorem w_9_131 : Cond.constantLong "TruckPlatoonsModel" 426 (10 : Int64) ∈ lw_big := x_t9 (List.mem_of_getElem? (i := 131) rfl) rfl
theorem w_9_132 : Cond.methodLink "TruckPlatoonsModel" 470 ⟨"TruckPlatoonsModel", "readStatement", "()Z"⟩ ∈ lw_big := x_t9 (List.mem_of_getElem? (i := 132) rfl) rfl
theorem w_9_134 : Cond.instanceMethod ⟨"TruckPlatoonsModel", "readStatement", "()Z"⟩ ∈ lw_big := x_t9 (List.mem_of_getElem? (i := 134) rfl) rfl
theorem w_9_135 : Cond.code ⟨"TruckPlatoonsModel", "readStatement", "()Z"⟩ prog_13_method_141_code 1 (Option.some FieldType.boolean) ∈ lw_big := x_t9 (List.mem_of_getElem? (i := 135) rfl) rfl
theorem w_9_136 : Cond.methodLink "TruckPlatoonsModel" 453 ⟨"TruckPlatoonsModel", "pack", "(IIIII)J"⟩ ∈ lw_big := x_t9 (List.mem_of_getElem? (i := 136) rfl) rfl
theorem w_9_137 : Cond.static ⟨"TruckPlatoonsModel", "pack", "(IIIII)J"⟩ ∈ lw_big := x_t9 (List.mem_of_getElem? (i := 137) rfl) rfl
theorem w_9_138 : Cond.code ⟨"TruckPlatoonsModel", "pack", "(IIIII)J"⟩ prog_13_method_134_code 7 (Option.some FieldType.long) ∈ lw_big := x_t9 (List.mem_of_getElem? (i := 138) rfl) rfl
theorem w_9_139 : Cond.methodLink "TruckPlatoonsModel" 457 ⟨"TruckPlatoonsModel", "isWord", "(J)Z"⟩ ∈ lw_big := x_t9 (List.mem_of_getElem? (i := 139) rfl) rfl
theorem w_9_141 : Cond.instanceMethod ⟨"TruckPlatoonsModel", "isWord", "(J)Z"⟩ ∈ lw_big := x_t9 (List.mem_of_getElem? (i := 141) rfl) rfl
theorem w_9_142 : Cond.code ⟨"TruckPlatoonsModel", "isWord", "(J)Z"⟩ prog_13_method_135_code 3 (Option.some FieldType.boolean) ∈ lw_big := x_t9 (List.mem_of_getElem? (i := 142) rfl) rfl
theorem w_9_143 : Cond.methodLink "TruckPlatoonsModel" 461 ⟨"TruckPlatoonsModel", "readRoad", "()Z"⟩ ∈ lw_big := x_t9 (List.mem_of_getElem? (i := 143) rfl) rfl
theorem w_9_145 : Cond.instanceMethod ⟨"TruckPlatoonsModel", "readRoad", "()Z"⟩ ∈ lw_big := x_t9 (List.mem_of_getElem? (i := 145) rfl) rfl
theorem w_9_146 : Cond.code ⟨"TruckPlatoonsModel", "readRoad", "()Z"⟩ prog_13_method_137_code 2 (Option.some FieldType.boolean) ∈ lw_big := x_t9 (List.mem_of_getElem? (i := 146) rfl) rfl
theorem w_9_147 : Cond.methodLink "TruckPlatoonsModel" 431 ⟨"TruckPlatoonsModel", "fail", "(I)Z"⟩ ∈ lw_big := x_t9 (List.mem_of_getElem? (i := 147) rfl) rfl
theorem w_9_149 : Cond.instanceMethod ⟨"TruckPlatoonsModel", "fail", "(I)Z"⟩ ∈ lw_big := x_t9 (List.mem_of_getElem? (i := 149) rfl) rfl
theorem w_9_150 : Cond.code ⟨"TruckPlatoonsModel", "fail", "(I)Z"⟩ prog_13_method_131_code 2 (Option.some FieldType.boolean) ∈ lw_big := x_t9 (List.mem_of_getElem? (i := 150) rfl) rfl
theorem w_9_151 : Cond.methodLink "TruckPlatoonsModel" 440 ⟨"TruckPlatoonsModel", "readInto", "(III)Z"⟩ ∈ lw_big := x_t9 (List.mem_of_getElem? (i := 151) rfl) rfl
theorem w_9_153 : Cond.instanceMethod ⟨"TruckPlatoonsModel", "readInto", "(III)Z"⟩ ∈ lw_big := x_t9 (List.mem_of_getElem? (i := 153) rfl) rfl
theorem w_9_154 : Cond.code ⟨"TruckPlatoonsModel", "readInto", "(III)Z"⟩ prog_13_method_136_code 4 (Option.some FieldType.boolean) ∈ lw_big := x_t9 (List.mem_of_getElem? (i := 154) rfl) rfl
theorem w_9_155 : Cond.methodLink "TruckPlatoonsModel" 437 ⟨"TruckPlatoonsModel", "readNumber", "(II)Z"⟩ ∈ lw_big := x_t9 (List.mem_of_getElem? (i := 155) rfl) rfl
theorem w_9_157 : Cond.instanceMethod ⟨"TruckPlatoonsModel", "readNumber", "(II)Z"⟩ ∈ lw_big := x_t9 (List.mem_of_getElem? (i := 157) rfl) rfl
theorem w_9_158 : Cond.code ⟨"TruckPlatoonsModel", "readNumber", "(II)Z"⟩ prog_13_method_132_code 3 (Option.some FieldType.boolean) ∈ lw_big := x_t9 (List.mem_of_getElem? (i := 158) rfl) rfl
theorem w_9_159 : Cond.methodLink "TruckPlatoonsModel" 444 ⟨"TruckPlatoonsModel", "readEnd", "()Z"⟩ ∈ lw_big := x_t9 (List.mem_of_getElem? (i := 159) rfl) rfl
theorem w_9_161 : Cond.instanceMethod ⟨"TruckPlatoonsModel", "readEnd", "()Z"⟩ ∈ lw_big := x_t9 (List.mem_of_getElem? (i := 161) rfl) rfl
theorem w_9_162 : Cond.code ⟨"TruckPlatoonsModel", "readEnd", "()Z"⟩ prog_13_method_133_code 1 (Option.some FieldType.boolean) ∈ lw_big := x_t9 (List.mem_of_getElem? (i := 162) rfl) rfl
theorem w_9_163 : Cond.methodLink "TruckPlatoonsModel" 464 ⟨"TruckPlatoonsModel", "readTruck", "()Z"⟩ ∈ lw_big := x_t9 (List.mem_of_getElem? (i := 163) rfl) rfl
theorem w_9_165 : Cond.instanceMethod ⟨"TruckPlatoonsModel", "readTruck", "()Z"⟩ ∈ lw_big := x_t9 (List.mem_of_getElem? (i := 165) rfl) rfl
theorem w_9_166 : Cond.code ⟨"TruckPlatoonsModel", "readTruck", "()Z"⟩ prog_13_method_140_code 2 (Option.some FieldType.boolean) ∈ lw_big := x_t9 (List.mem_of_getElem? (i := 166) rfl) rfl
theorem w_9_167 : Cond.methodLink "TruckPlatoonsModel" 450 ⟨"TruckPlatoonsModel", "readPlace", "(I)Z"⟩ ∈ lw_big := x_t9 (List.mem_of_getElem? (i := 167) rfl) rfl
theorem w_9_169 : Cond.instanceMethod ⟨"TruckPlatoonsModel", "readPlace", "(I)Z"⟩ ∈ lw_big := x_t9 (List.mem_of_getElem? (i := 169) rfl) rfl
theorem w_9_170 : Cond.code ⟨"TruckPlatoonsModel", "readPlace", "(I)Z"⟩ prog_13_method_139_code 4 (Option.some FieldType.boolean) ∈ lw_big := x_t9 (List.mem_of_getElem? (i := 170) rfl) rfl
theorem w_9_171 : Cond.methodLink "TruckPlatoonsModel" 447 ⟨"TruckPlatoonsModel", "toldRoad", "(II)I"⟩ ∈ lw_big := x_t9 (List.mem_of_getElem? (i := 171) rfl) rfl
theorem w_9_173 : Cond.instanceMethod ⟨"TruckPlatoonsModel", "toldRoad", "(II)I"⟩ ∈ lw_big := x_t9 (List.mem_of_getElem? (i := 173) rfl) rfl
theorem w_9_174 : Cond.code ⟨"TruckPlatoonsModel", "toldRoad", "(II)I"⟩ prog_13_method_138_code 3 (Option.some FieldType.int) ∈ lw_big := x_t9 (List.mem_of_getElem? (i := 174) rfl) rfl
theorem w_9_175 : Cond.methodLink "TruckPlatoonsLaw" 264 ⟨"TruckPlatoonsModel", "play", "()I"⟩ ∈ lw_big := x_t9 (List.mem_of_getElem? (i := 175) rfl) rfl
theorem w_9_176 : Cond.instanceMethod ⟨"TruckPlatoonsModel", "play", "()I"⟩ ∈ lw_big := x_t9 (List.mem_of_getElem? (i := 176) rfl) rfl
theorem w_9_177 : Cond.selects "TruckPlatoonsModel" ⟨"TruckPlatoonsModel", "play", "()I"⟩ ⟨"TruckPlatoonsModel", "play", "()I"⟩ ∈ lw_big := x_t9 (List.mem_of_getElem? (i := 177) rfl) rfl
theorem w_9_178 : Cond.code ⟨"TruckPlatoonsModel", "play", "()I"⟩ prog_13_method_148_code 3 (Option.some FieldType.int) ∈ lw_big := x_t9 (List.mem_of_getElem? (i := 178) rfl) rfl
theorem w_9_179 : Cond.methodLink "TruckPlatoonsModel" 485 ⟨"TruckPlatoonsModel", "readCommand", "()Z"⟩ ∈ lw_big := x_t9 (List.mem_of_getElem? (i := 179) rfl) rfl
theorem w_9_181 : Cond.instanceMethod ⟨"TruckPlatoonsModel", "readCommand", "()Z"⟩ ∈ lw_big := x_t9 (List.mem_of_getElem? (i := 181) rfl) rfl
theorem w_9_182 : Cond.code ⟨"TruckPlatoonsModel", "readCommand", "()Z"⟩ prog_13_method_146_code 2 (Option.some FieldType.boolean) ∈ lw_big := x_t9 (List.mem_of_getElem? (i := 182) rfl) rfl
theorem w_9_183 : Cond.methodLink "TruckPlatoonsModel" 479 ⟨"TruckPlatoonsModel", "commandHere", "()I"⟩ ∈ lw_big := x_t9 (List.mem_of_getElem? (i := 183) rfl) rfl
theorem w_9_185 : Cond.instanceMethod ⟨"TruckPlatoonsModel", "commandHere", "()I"⟩ ∈ lw_big := x_t9 (List.mem_of_getElem? (i := 185) rfl) rfl
theorem w_9_186 : Cond.code ⟨"TruckPlatoonsModel", "commandHere", "()I"⟩ prog_13_method_143_code 1 (Option.some FieldType.int) ∈ lw_big := x_t9 (List.mem_of_getElem? (i := 186) rfl) rfl
theorem w_9_187 : Cond.methodLink "TruckPlatoonsModel" 482 ⟨"TruckPlatoonsModel", "readArguments", "(I)Z"⟩ ∈ lw_big := x_t9 (List.mem_of_getElem? (i := 187) rfl) rfl
theorem w_9_189 : Cond.instanceMethod ⟨"TruckPlatoonsModel", "readArguments", "(I)Z"⟩ ∈ lw_big := x_t9 (List.mem_of_getElem? (i := 189) rfl) rfl
theorem w_9_190 : Cond.code ⟨"TruckPlatoonsModel", "readArguments", "(I)Z"⟩ prog_13_method_145_code 2 (Option.some FieldType.boolean) ∈ lw_big := x_t9 (List.mem_of_getElem? (i := 190) rfl) rfl
theorem w_9_191 : Cond.methodLink "TruckPlatoonsModel" 476 ⟨"TruckPlatoonsModel", "readNumberOf", "(III)Z"⟩ ∈ lw_big := x_t9 (List.mem_of_getElem? (i := 191) rfl) rfl
theorem w_9_193 : Cond.instanceMethod ⟨"TruckPlatoonsModel", "readNumberOf", "(III)Z"⟩ ∈ lw_big := x_t9 (List.mem_of_getElem? (i := 193) rfl) rfl
theorem w_9_194 : Cond.code ⟨"TruckPlatoonsModel", "readNumberOf", "(III)Z"⟩ prog_13_method_144_code 4 (Option.some FieldType.boolean) ∈ lw_big := x_t9 (List.mem_of_getElem? (i := 194) rfl) rfl
theorem w_9_195 : Cond.methodLink "TruckPlatoonsModel" 488 ⟨"TruckPlatoonsModel", "isDone", "(I)Z"⟩ ∈ lw_big := x_t9 (List.mem_of_getElem? (i := 195) rfl) rfl
theorem w_9_197 : Cond.instanceMethod ⟨"TruckPlatoonsModel", "isDone", "(I)Z"⟩ ∈ lw_big := x_t9 (List.mem_of_getElem? (i := 197) rfl) rfl
theorem w_9_198 : Cond.code ⟨"TruckPlatoonsModel", "isDone", "(I)Z"⟩ prog_13_method_147_code 5 (Option.some FieldType.boolean) ∈ lw_big := x_t9 (List.mem_of_getElem? (i := 198) rfl) rfl
theorem w_9_202 : Cond.fieldLink "java/lang/String" 9 "java/lang/String" "value" "[B" ∈ lw_big := x_t9 (List.mem_of_getElem? (i := 202) rfl) rfl
theorem w_9_203 : Cond.fieldLink "java/lang/String" 15 "java/lang/String" "coder" "B" ∈ lw_big := x_t9 (List.mem_of_getElem? (i := 203) rfl) rfl
theorem wp_0 : Cond.selects "TruckPlatoons$Text" ⟨"TruckPlatoons$Text", "readDigits", "()V"⟩ ⟨"TruckPlatoons$Text", "readDigits", "()V"⟩ ∈ lw_big := x_pr (y := ⟨"TruckPlatoons$Text", "readDigits", "()V"⟩) (k := 0) (n := 8) rfl
theorem wp_1 : Cond.selects "TruckPlatoons$Text" ⟨"TruckPlatoons$Text", "readLetters", "()V"⟩ ⟨"TruckPlatoons$Text", "readLetters", "()V"⟩ ∈ lw_big := x_pr (y := ⟨"TruckPlatoons$Text", "readLetters", "()V"⟩) (k := 1) (n := 8) rfl
theorem wp_2 : Cond.selects "TruckPlatoons$Loader" ⟨"TruckPlatoons$Loader", "readRoad", "(LTruckPlatoons$Text;I)Z"⟩ ⟨"TruckPlatoons$Loader", "readRoad", "(LTruckPlatoons$Text;I)Z"⟩ ∈ lw_big := x_pr (y := ⟨"TruckPlatoons$Loader", "readRoad", "(LTruckPlatoons$Text;I)Z"⟩) (k := 2) (n := 1) rfl
theorem wp_3 : Cond.selects "TruckPlatoons$Loader" ⟨"TruckPlatoons$Loader", "readTruck", "(LTruckPlatoons$Text;I)Z"⟩ ⟨"TruckPlatoons$Loader", "readTruck", "(LTruckPlatoons$Text;I)Z"⟩ ∈ lw_big := x_pr (y := ⟨"TruckPlatoons$Loader", "readTruck", "(LTruckPlatoons$Text;I)Z"⟩) (k := 3) (n := 1) rfl
theorem wp_4 : Cond.selects "TruckPlatoons$Loader" ⟨"TruckPlatoons$Loader", "readRoute", "(LTruckPlatoons$Text;I)Z"⟩ ⟨"TruckPlatoons$Loader", "readRoute", "(LTruckPlatoons$Text;I)Z"⟩ ∈ lw_big := x_pr (y := ⟨"TruckPlatoons$Loader", "readRoute", "(LTruckPlatoons$Text;I)Z"⟩) (k := 4) (n := 1) rfl
theorem wp_5 : Cond.selects "TruckPlatoons$Routes" ⟨"TruckPlatoons$Routes", "listByRoad", "()V"⟩ ⟨"TruckPlatoons$Routes", "listByRoad", "()V"⟩ ∈ lw_big := x_pr (y := ⟨"TruckPlatoons$Routes", "listByRoad", "()V"⟩) (k := 5) (n := 6) rfl
theorem wp_6 : Cond.selects "TruckPlatoons$Routes" ⟨"TruckPlatoons$Routes", "setNext", "()V"⟩ ⟨"TruckPlatoons$Routes", "setNext", "()V"⟩ ∈ lw_big := x_pr (y := ⟨"TruckPlatoons$Routes", "setNext", "()V"⟩) (k := 6) (n := 6) rfl
theorem wp_7 : Cond.selects "TruckPlatoons$Routes" ⟨"TruckPlatoons$Routes", "setShared", "(II)V"⟩ ⟨"TruckPlatoons$Routes", "setShared", "(II)V"⟩ ∈ lw_big := x_pr (y := ⟨"TruckPlatoons$Routes", "setShared", "(II)V"⟩) (k := 7) (n := 6) rfl
theorem wp_8 : Cond.selects "TruckPlatoons$Plan" ⟨"TruckPlatoons$Plan", "sortByTime", "(II)V"⟩ ⟨"TruckPlatoons$Plan", "sortByTime", "(II)V"⟩ ∈ lw_big := x_pr (y := ⟨"TruckPlatoons$Plan", "sortByTime", "(II)V"⟩) (k := 8) (n := 15) rfl
theorem wp_9 : Cond.selects "TruckPlatoons$Plan" ⟨"TruckPlatoons$Plan", "isEarlier", "(II)Z"⟩ ⟨"TruckPlatoons$Plan", "isEarlier", "(II)Z"⟩ ∈ lw_big := x_pr (y := ⟨"TruckPlatoons$Plan", "isEarlier", "(II)Z"⟩) (k := 9) (n := 15) rfl
theorem wp_10 : Cond.selects "TruckPlatoons$Plan" ⟨"TruckPlatoons$Plan", "setKeys", "(II)V"⟩ ⟨"TruckPlatoons$Plan", "setKeys", "(II)V"⟩ ∈ lw_big := x_pr (y := ⟨"TruckPlatoons$Plan", "setKeys", "(II)V"⟩) (k := 10) (n := 15) rfl
theorem wp_11 : Cond.selects "TruckPlatoons$Plan" ⟨"TruckPlatoons$Plan", "sortByKey", "(II)V"⟩ ⟨"TruckPlatoons$Plan", "sortByKey", "(II)V"⟩ ∈ lw_big := x_pr (y := ⟨"TruckPlatoons$Plan", "sortByKey", "(II)V"⟩) (k := 11) (n := 15) rfl
theorem wp_12 : Cond.selects "TruckPlatoons$Plan" ⟨"TruckPlatoons$Plan", "isAhead", "(II)Z"⟩ ⟨"TruckPlatoons$Plan", "isAhead", "(II)Z"⟩ ∈ lw_big := x_pr (y := ⟨"TruckPlatoons$Plan", "isAhead", "(II)Z"⟩) (k := 12) (n := 15) rfl
theorem wp_13 : Cond.selects "TruckPlatoons$Plan" ⟨"TruckPlatoons$Plan", "setPlatoon", "(III)V"⟩ ⟨"TruckPlatoons$Plan", "setPlatoon", "(III)V"⟩ ∈ lw_big := x_pr (y := ⟨"TruckPlatoons$Plan", "setPlatoon", "(III)V"⟩) (k := 13) (n := 15) rfl
theorem wp_14 : Cond.selects "TruckPlatoons$Plan" ⟨"TruckPlatoons$Plan", "distanceAt", "([II)I"⟩ ⟨"TruckPlatoons$Plan", "distanceAt", "([II)I"⟩ ∈ lw_big := x_pr (y := ⟨"TruckPlatoons$Plan", "distanceAt", "([II)I"⟩) (k := 14) (n := 15) rfl
theorem wp_15 : Cond.selects "TruckPlatoons$Plan" ⟨"TruckPlatoons$Plan", "closesUpAt", "([III)Z"⟩ ⟨"TruckPlatoons$Plan", "closesUpAt", "([III)Z"⟩ ∈ lw_big := x_pr (y := ⟨"TruckPlatoons$Plan", "closesUpAt", "([III)Z"⟩) (k := 15) (n := 15) rfl
theorem wp_16 : Cond.selects "TruckPlatoons" ⟨"TruckPlatoons", "companies", "()I"⟩ ⟨"TruckPlatoons", "companies", "()I"⟩ ∈ lw_big := x_pr (y := ⟨"TruckPlatoons", "companies", "()I"⟩) (k := 16) (n := 12) rfl
theorem wp_17 : Cond.selects "TruckPlatoons" ⟨"TruckPlatoons", "lateSet", "()I"⟩ ⟨"TruckPlatoons", "lateSet", "()I"⟩ ∈ lw_big := x_pr (y := ⟨"TruckPlatoons", "lateSet", "()I"⟩) (k := 17) (n := 12) rfl
theorem wp_18 : Cond.selects "TruckPlatoons" ⟨"TruckPlatoons", "greatestPlatoon", "()I"⟩ ⟨"TruckPlatoons", "greatestPlatoon", "()I"⟩ ∈ lw_big := x_pr (y := ⟨"TruckPlatoons", "greatestPlatoon", "()I"⟩) (k := 18) (n := 12) rfl
theorem wp_19 : Cond.selects "TruckPlatoons" ⟨"TruckPlatoons", "mergeByGain", "()I"⟩ ⟨"TruckPlatoons", "mergeByGain", "()I"⟩ ∈ lw_big := x_pr (y := ⟨"TruckPlatoons", "mergeByGain", "()I"⟩) (k := 19) (n := 12) rfl
theorem wp_20 : Cond.selects "TruckPlatoons" ⟨"TruckPlatoons", "mergeBestTwo", "()Z"⟩ ⟨"TruckPlatoons", "mergeBestTwo", "()Z"⟩ ∈ lw_big := x_pr (y := ⟨"TruckPlatoons", "mergeBestTwo", "()Z"⟩) (k := 20) (n := 12) rfl
theorem wp_21 : Cond.selects "TruckPlatoons$Merger" ⟨"TruckPlatoons$Merger", "drive", "(III)V"⟩ ⟨"TruckPlatoons$Merger", "drive", "(III)V"⟩ ∈ lw_big := x_pr (y := ⟨"TruckPlatoons$Merger", "drive", "(III)V"⟩) (k := 21) (n := 7) rfl
theorem wp_22 : Cond.selects "TruckPlatoons$Script" ⟨"TruckPlatoons$Script", "readArguments", "(LTruckPlatoons$Text;I)Z"⟩ ⟨"TruckPlatoons$Script", "readArguments", "(LTruckPlatoons$Text;I)Z"⟩ ∈ lw_big := x_pr (y := ⟨"TruckPlatoons$Script", "readArguments", "(LTruckPlatoons$Text;I)Z"⟩) (k := 22) (n := 3) rfl
theorem wp_23 : Cond.selects "TruckPlatoons" ⟨"TruckPlatoons", "perform", "(I)Z"⟩ ⟨"TruckPlatoons", "perform", "(I)Z"⟩ ∈ lw_big := x_pr (y := ⟨"TruckPlatoons", "perform", "(I)Z"⟩) (k := 23) (n := 12) rfl
theorem wp_24 : Cond.selects "TruckPlatoons" ⟨"TruckPlatoons", "performWait", "(III)Z"⟩ ⟨"TruckPlatoons", "performWait", "(III)Z"⟩ ∈ lw_big := x_pr (y := ⟨"TruckPlatoons", "performWait", "(III)Z"⟩) (k := 24) (n := 12) rfl
theorem wp_25 : Cond.selects "TruckPlatoons" ⟨"TruckPlatoons", "changeWait", "(II)I"⟩ ⟨"TruckPlatoons", "changeWait", "(II)I"⟩ ∈ lw_big := x_pr (y := ⟨"TruckPlatoons", "changeWait", "(II)I"⟩) (k := 25) (n := 12) rfl
theorem wp_26 : Cond.selects "TruckPlatoons" ⟨"TruckPlatoons", "performSpeed", "(III)Z"⟩ ⟨"TruckPlatoons", "performSpeed", "(III)Z"⟩ ∈ lw_big := x_pr (y := ⟨"TruckPlatoons", "performSpeed", "(III)Z"⟩) (k := 26) (n := 12) rfl
theorem wp_27 : Cond.selects "TruckPlatoons" ⟨"TruckPlatoons", "changeSpeed", "(II)I"⟩ ⟨"TruckPlatoons", "changeSpeed", "(II)I"⟩ ∈ lw_big := x_pr (y := ⟨"TruckPlatoons", "changeSpeed", "(II)I"⟩) (k := 27) (n := 12) rfl
theorem wp_28 : Cond.selects "TruckPlatoons" ⟨"TruckPlatoons", "changeStart", "(II)I"⟩ ⟨"TruckPlatoons", "changeStart", "(II)I"⟩ ∈ lw_big := x_pr (y := ⟨"TruckPlatoons", "changeStart", "(II)I"⟩) (k := 28) (n := 12) rfl
theorem wp_29 : Cond.selects "TruckPlatoons" ⟨"TruckPlatoons", "mergeTwo", "(II)I"⟩ ⟨"TruckPlatoons", "mergeTwo", "(II)I"⟩ ∈ lw_big := x_pr (y := ⟨"TruckPlatoons", "mergeTwo", "(II)I"⟩) (k := 29) (n := 12) rfl
theorem wp_30 : Cond.selects "TruckPlatoons" ⟨"TruckPlatoons", "speedUp", "(I)I"⟩ ⟨"TruckPlatoons", "speedUp", "(I)I"⟩ ∈ lw_big := x_pr (y := ⟨"TruckPlatoons", "speedUp", "(I)I"⟩) (k := 30) (n := 12) rfl
theorem wp_31 : Cond.selects "TruckPlatoons" ⟨"TruckPlatoons", "slowDown", "(I)I"⟩ ⟨"TruckPlatoons", "slowDown", "(I)I"⟩ ∈ lw_big := x_pr (y := ⟨"TruckPlatoons", "slowDown", "(I)I"⟩) (k := 31) (n := 12) rfl
theorem wp_32 : Cond.selects "java/lang/Throwable" ⟨"java/lang/Throwable", "fillInStackTrace", "(I)Ljava/lang/Throwable;"⟩ ⟨"java/lang/Throwable", "fillInStackTrace", "(I)Ljava/lang/Throwable;"⟩ ∈ lw_big := x_pr (y := ⟨"java/lang/Throwable", "fillInStackTrace", "(I)Ljava/lang/Throwable;"⟩) (k := 32) (n := 6) rfl
theorem wp_33 : Cond.selects "TruckPlatoons" ⟨"TruckPlatoons", "checkRoad", "(I)V"⟩ ⟨"TruckPlatoons", "checkRoad", "(I)V"⟩ ∈ lw_big := x_pr (y := ⟨"TruckPlatoons", "checkRoad", "(I)V"⟩) (k := 33) (n := 12) rfl
theorem wp_34 : Cond.selects "TruckPlatoons" ⟨"TruckPlatoons", "checkTruck", "(I)V"⟩ ⟨"TruckPlatoons", "checkTruck", "(I)V"⟩ ∈ lw_big := x_pr (y := ⟨"TruckPlatoons", "checkTruck", "(I)V"⟩) (k := 34) (n := 12) rfl
theorem wp_35 : Cond.selects "TruckPlatoons" ⟨"TruckPlatoons", "checkPlace", "(II)V"⟩ ⟨"TruckPlatoons", "checkPlace", "(II)V"⟩ ∈ lw_big := x_pr (y := ⟨"TruckPlatoons", "checkPlace", "(II)V"⟩) (k := 35) (n := 12) rfl
theorem wp_36 : Cond.selects "TruckPlatoons" ⟨"TruckPlatoons", "checkPlatoon", "(II)V"⟩ ⟨"TruckPlatoons", "checkPlatoon", "(II)V"⟩ ∈ lw_big := x_pr (y := ⟨"TruckPlatoons", "checkPlatoon", "(II)V"⟩) (k := 36) (n := 12) rfl
theorem wp_37 : Cond.selects "TruckPlatoons$BestOrder" ⟨"TruckPlatoons$BestOrder", "takeMembers", "(I)V"⟩ ⟨"TruckPlatoons$BestOrder", "takeMembers", "(I)V"⟩ ∈ lw_big := x_pr (y := ⟨"TruckPlatoons$BestOrder", "takeMembers", "(I)V"⟩) (k := 37) (n := 5) rfl
theorem wp_38 : Cond.selects "TruckPlatoons$BestOrder" ⟨"TruckPlatoons$BestOrder", "stepOn", "()Z"⟩ ⟨"TruckPlatoons$BestOrder", "stepOn", "()Z"⟩ ∈ lw_big := x_pr (y := ⟨"TruckPlatoons$BestOrder", "stepOn", "()Z"⟩) (k := 38) (n := 5) rfl
theorem wp_39 : Cond.selects "TruckPlatoons$BestOrder" ⟨"TruckPlatoons$BestOrder", "swap", "(II)V"⟩ ⟨"TruckPlatoons$BestOrder", "swap", "(II)V"⟩ ∈ lw_big := x_pr (y := ⟨"TruckPlatoons$BestOrder", "swap", "(II)V"⟩) (k := 39) (n := 5) rfl
theorem wp_40 : Cond.selects "TruckPlatoons" ⟨"TruckPlatoons", "reachFurther", "()V"⟩ ⟨"TruckPlatoons", "reachFurther", "()V"⟩ ∈ lw_big := x_pr (y := ⟨"TruckPlatoons", "reachFurther", "()V"⟩) (k := 40) (n := 12) rfl
theorem wp_41 : Cond.selects "TruckPlatoonsModel" ⟨"TruckPlatoonsModel", "copyPlan", "(II)V"⟩ ⟨"TruckPlatoonsModel", "copyPlan", "(II)V"⟩ ∈ lw_big := x_pr (y := ⟨"TruckPlatoonsModel", "copyPlan", "(II)V"⟩) (k := 41) (n := 41) rfl
theorem wp_42 : Cond.selects "TruckPlatoonsModel" ⟨"TruckPlatoonsModel", "lay", "()V"⟩ ⟨"TruckPlatoonsModel", "lay", "()V"⟩ ∈ lw_big := x_pr (y := ⟨"TruckPlatoonsModel", "lay", "()V"⟩) (k := 42) (n := 41) rfl
theorem wp_43 : Cond.selects "TruckPlatoonsModel" ⟨"TruckPlatoonsModel", "layTimes", "(I)V"⟩ ⟨"TruckPlatoonsModel", "layTimes", "(I)V"⟩ ∈ lw_big := x_pr (y := ⟨"TruckPlatoonsModel", "layTimes", "(I)V"⟩) (k := 43) (n := 41) rfl
theorem wp_44 : Cond.selects "TruckPlatoonsModel" ⟨"TruckPlatoonsModel", "placesOf", "(I)I"⟩ ⟨"TruckPlatoonsModel", "placesOf", "(I)I"⟩ ∈ lw_big := x_pr (y := ⟨"TruckPlatoonsModel", "placesOf", "(I)I"⟩) (k := 44) (n := 41) rfl
theorem wp_45 : Cond.selects "TruckPlatoonsModel" ⟨"TruckPlatoonsModel", "ofTruck", "(II)I"⟩ ⟨"TruckPlatoonsModel", "ofTruck", "(II)I"⟩ ∈ lw_big := x_pr (y := ⟨"TruckPlatoonsModel", "ofTruck", "(II)I"⟩) (k := 45) (n := 41) rfl
theorem wp_46 : Cond.selects "TruckPlatoonsModel" ⟨"TruckPlatoonsModel", "waitAt", "(II)I"⟩ ⟨"TruckPlatoonsModel", "waitAt", "(II)I"⟩ ∈ lw_big := x_pr (y := ⟨"TruckPlatoonsModel", "waitAt", "(II)I"⟩) (k := 46) (n := 41) rfl
theorem wp_47 : Cond.selects "TruckPlatoonsModel" ⟨"TruckPlatoonsModel", "roadAt", "(II)I"⟩ ⟨"TruckPlatoonsModel", "roadAt", "(II)I"⟩ ∈ lw_big := x_pr (y := ⟨"TruckPlatoonsModel", "roadAt", "(II)I"⟩) (k := 47) (n := 41) rfl
theorem wp_48 : Cond.selects "TruckPlatoonsModel" ⟨"TruckPlatoonsModel", "speedAt", "(II)I"⟩ ⟨"TruckPlatoonsModel", "speedAt", "(II)I"⟩ ∈ lw_big := x_pr (y := ⟨"TruckPlatoonsModel", "speedAt", "(II)I"⟩) (k := 48) (n := 41) rfl
theorem wp_49 : Cond.selects "TruckPlatoonsModel" ⟨"TruckPlatoonsModel", "minutes", "(II)I"⟩ ⟨"TruckPlatoonsModel", "minutes", "(II)I"⟩ ∈ lw_big := x_pr (y := ⟨"TruckPlatoonsModel", "minutes", "(II)I"⟩) (k := 49) (n := 41) rfl
theorem wp_50 : Cond.selects "TruckPlatoonsModel" ⟨"TruckPlatoonsModel", "ofRoad", "(II)I"⟩ ⟨"TruckPlatoonsModel", "ofRoad", "(II)I"⟩ ∈ lw_big := x_pr (y := ⟨"TruckPlatoonsModel", "ofRoad", "(II)I"⟩) (k := 50) (n := 41) rfl
theorem wp_51 : Cond.selects "TruckPlatoonsModel" ⟨"TruckPlatoonsModel", "layMates", "()V"⟩ ⟨"TruckPlatoonsModel", "layMates", "()V"⟩ ∈ lw_big := x_pr (y := ⟨"TruckPlatoonsModel", "layMates", "()V"⟩) (k := 51) (n := 41) rfl
theorem wp_52 : Cond.selects "TruckPlatoonsModel" ⟨"TruckPlatoonsModel", "setMate", "(IIII)V"⟩ ⟨"TruckPlatoonsModel", "setMate", "(IIII)V"⟩ ∈ lw_big := x_pr (y := ⟨"TruckPlatoonsModel", "setMate", "(IIII)V"⟩) (k := 52) (n := 41) rfl
theorem wp_53 : Cond.selects "TruckPlatoonsModel" ⟨"TruckPlatoonsModel", "areMates", "(IIII)Z"⟩ ⟨"TruckPlatoonsModel", "areMates", "(IIII)Z"⟩ ∈ lw_big := x_pr (y := ⟨"TruckPlatoonsModel", "areMates", "(IIII)Z"⟩) (k := 53) (n := 41) rfl
theorem wp_54 : Cond.selects "TruckPlatoonsModel" ⟨"TruckPlatoonsModel", "layKey", "(II)V"⟩ ⟨"TruckPlatoonsModel", "layKey", "(II)V"⟩ ∈ lw_big := x_pr (y := ⟨"TruckPlatoonsModel", "layKey", "(II)V"⟩) (k := 54) (n := 41) rfl
theorem wp_55 : Cond.selects "TruckPlatoonsModel" ⟨"TruckPlatoonsModel", "mateOf", "(III)I"⟩ ⟨"TruckPlatoonsModel", "mateOf", "(III)I"⟩ ∈ lw_big := x_pr (y := ⟨"TruckPlatoonsModel", "mateOf", "(III)I"⟩) (k := 55) (n := 41) rfl
theorem wp_56 : Cond.selects "TruckPlatoonsModel" ⟨"TruckPlatoonsModel", "shared", "(IIII)I"⟩ ⟨"TruckPlatoonsModel", "shared", "(IIII)I"⟩ ∈ lw_big := x_pr (y := ⟨"TruckPlatoonsModel", "shared", "(IIII)I"⟩) (k := 56) (n := 41) rfl
theorem wp_57 : Cond.selects "TruckPlatoonsModel" ⟨"TruckPlatoonsModel", "layPosition", "(II)V"⟩ ⟨"TruckPlatoonsModel", "layPosition", "(II)V"⟩ ∈ lw_big := x_pr (y := ⟨"TruckPlatoonsModel", "layPosition", "(II)V"⟩) (k := 57) (n := 41) rfl
theorem wp_58 : Cond.selects "TruckPlatoonsModel" ⟨"TruckPlatoonsModel", "layPlatoon", "(II)V"⟩ ⟨"TruckPlatoonsModel", "layPlatoon", "(II)V"⟩ ∈ lw_big := x_pr (y := ⟨"TruckPlatoonsModel", "layPlatoon", "(II)V"⟩) (k := 58) (n := 41) rfl
theorem wp_59 : Cond.selects "TruckPlatoonsModel" ⟨"TruckPlatoonsModel", "layOrder", "(II)I"⟩ ⟨"TruckPlatoonsModel", "layOrder", "(II)I"⟩ ∈ lw_big := x_pr (y := ⟨"TruckPlatoonsModel", "layOrder", "(II)I"⟩) (k := 59) (n := 41) rfl
theorem wp_60 : Cond.selects "TruckPlatoonsModel" ⟨"TruckPlatoonsModel", "memberAt", "(III)I"⟩ ⟨"TruckPlatoonsModel", "memberAt", "(III)I"⟩ ∈ lw_big := x_pr (y := ⟨"TruckPlatoonsModel", "memberAt", "(III)I"⟩) (k := 60) (n := 41) rfl
theorem wp_61 : Cond.selects "TruckPlatoonsModel" ⟨"TruckPlatoonsModel", "distanceBehind", "(I)I"⟩ ⟨"TruckPlatoonsModel", "distanceBehind", "(I)I"⟩ ∈ lw_big := x_pr (y := ⟨"TruckPlatoonsModel", "distanceBehind", "(I)I"⟩) (k := 61) (n := 41) rfl
theorem wp_62 : Cond.selects "TruckPlatoonsModel" ⟨"TruckPlatoonsModel", "savingOf", "(II)I"⟩ ⟨"TruckPlatoonsModel", "savingOf", "(II)I"⟩ ∈ lw_big := x_pr (y := ⟨"TruckPlatoonsModel", "savingOf", "(II)I"⟩) (k := 62) (n := 41) rfl
theorem wp_63 : Cond.selects "TruckPlatoonsModel" ⟨"TruckPlatoonsModel", "baseAt", "(II)I"⟩ ⟨"TruckPlatoonsModel", "baseAt", "(II)I"⟩ ∈ lw_big := x_pr (y := ⟨"TruckPlatoonsModel", "baseAt", "(II)I"⟩) (k := 63) (n := 41) rfl
theorem wp_64 : Cond.selects "TruckPlatoonsModel" ⟨"TruckPlatoonsModel", "shareOf", "(I)I"⟩ ⟨"TruckPlatoonsModel", "shareOf", "(I)I"⟩ ∈ lw_big := x_pr (y := ⟨"TruckPlatoonsModel", "shareOf", "(I)I"⟩) (k := 64) (n := 41) rfl
theorem wp_65 : Cond.selects "TruckPlatoonsModel" ⟨"TruckPlatoonsModel", "isClosing", "(I)Z"⟩ ⟨"TruckPlatoonsModel", "isClosing", "(I)Z"⟩ ∈ lw_big := x_pr (y := ⟨"TruckPlatoonsModel", "isClosing", "(I)Z"⟩) (k := 65) (n := 41) rfl
theorem wp_66 : Cond.selects "TruckPlatoonsModel" ⟨"TruckPlatoonsModel", "nextRoad", "(II)I"⟩ ⟨"TruckPlatoonsModel", "nextRoad", "(II)I"⟩ ∈ lw_big := x_pr (y := ⟨"TruckPlatoonsModel", "nextRoad", "(II)I"⟩) (k := 66) (n := 41) rfl
theorem wp_67 : Cond.selects "TruckPlatoonsModel" ⟨"TruckPlatoonsModel", "allPlaces", "()I"⟩ ⟨"TruckPlatoonsModel", "allPlaces", "()I"⟩ ∈ lw_big := x_pr (y := ⟨"TruckPlatoonsModel", "allPlaces", "()I"⟩) (k := 67) (n := 41) rfl
theorem wp_68 : Cond.selects "TruckPlatoonsModel" ⟨"TruckPlatoonsModel", "platoons", "(Z)I"⟩ ⟨"TruckPlatoonsModel", "platoons", "(Z)I"⟩ ∈ lw_big := x_pr (y := ⟨"TruckPlatoonsModel", "platoons", "(Z)I"⟩) (k := 68) (n := 41) rfl
theorem wp_69 : Cond.selects "TruckPlatoonsModel" ⟨"TruckPlatoonsModel", "lateSet", "()I"⟩ ⟨"TruckPlatoonsModel", "lateSet", "()I"⟩ ∈ lw_big := x_pr (y := ⟨"TruckPlatoonsModel", "lateSet", "()I"⟩) (k := 69) (n := 41) rfl
theorem wp_70 : Cond.selects "TruckPlatoonsModel" ⟨"TruckPlatoonsModel", "isLate", "(I)Z"⟩ ⟨"TruckPlatoonsModel", "isLate", "(I)Z"⟩ ∈ lw_big := x_pr (y := ⟨"TruckPlatoonsModel", "isLate", "(I)Z"⟩) (k := 70) (n := 41) rfl
theorem wp_71 : Cond.selects "TruckPlatoonsModel" ⟨"TruckPlatoonsModel", "arrival", "(I)I"⟩ ⟨"TruckPlatoonsModel", "arrival", "(I)I"⟩ ∈ lw_big := x_pr (y := ⟨"TruckPlatoonsModel", "arrival", "(I)I"⟩) (k := 71) (n := 41) rfl
theorem wp_72 : Cond.selects "TruckPlatoonsModel" ⟨"TruckPlatoonsModel", "sumOfAll", "(I)I"⟩ ⟨"TruckPlatoonsModel", "sumOfAll", "(I)I"⟩ ∈ lw_big := x_pr (y := ⟨"TruckPlatoonsModel", "sumOfAll", "(I)I"⟩) (k := 72) (n := 41) rfl
theorem wp_73 : Cond.selects "TruckPlatoonsModel" ⟨"TruckPlatoonsModel", "sumOf", "(II)I"⟩ ⟨"TruckPlatoonsModel", "sumOf", "(II)I"⟩ ∈ lw_big := x_pr (y := ⟨"TruckPlatoonsModel", "sumOf", "(II)I"⟩) (k := 73) (n := 41) rfl
theorem wp_74 : Cond.selects "TruckPlatoonsModel" ⟨"TruckPlatoonsModel", "fuelAt", "(II)I"⟩ ⟨"TruckPlatoonsModel", "fuelAt", "(II)I"⟩ ∈ lw_big := x_pr (y := ⟨"TruckPlatoonsModel", "fuelAt", "(II)I"⟩) (k := 74) (n := 41) rfl
theorem wp_75 : Cond.selects "TruckPlatoonsModel" ⟨"TruckPlatoonsModel", "isRoad", "(I)Z"⟩ ⟨"TruckPlatoonsModel", "isRoad", "(I)Z"⟩ ∈ lw_big := x_pr (y := ⟨"TruckPlatoonsModel", "isRoad", "(I)Z"⟩) (k := 75) (n := 41) rfl
theorem wp_76 : Cond.selects "TruckPlatoonsModel" ⟨"TruckPlatoonsModel", "throwsIf", "(ZI)Z"⟩ ⟨"TruckPlatoonsModel", "throwsIf", "(ZI)Z"⟩ ∈ lw_big := x_pr (y := ⟨"TruckPlatoonsModel", "throwsIf", "(ZI)Z"⟩) (k := 76) (n := 41) rfl
theorem wp_77 : Cond.selects "TruckPlatoonsModel" ⟨"TruckPlatoonsModel", "platoonsOn", "(I)I"⟩ ⟨"TruckPlatoonsModel", "platoonsOn", "(I)I"⟩ ∈ lw_big := x_pr (y := ⟨"TruckPlatoonsModel", "platoonsOn", "(I)I"⟩) (k := 77) (n := 41) rfl
theorem wp_78 : Cond.selects "TruckPlatoonsModel" ⟨"TruckPlatoonsModel", "trucksOn", "(I)I"⟩ ⟨"TruckPlatoonsModel", "trucksOn", "(I)I"⟩ ∈ lw_big := x_pr (y := ⟨"TruckPlatoonsModel", "trucksOn", "(I)I"⟩) (k := 78) (n := 41) rfl
theorem wp_79 : Cond.selects "TruckPlatoonsModel" ⟨"TruckPlatoonsModel", "isTruck", "(I)Z"⟩ ⟨"TruckPlatoonsModel", "isTruck", "(I)Z"⟩ ∈ lw_big := x_pr (y := ⟨"TruckPlatoonsModel", "isTruck", "(I)Z"⟩) (k := 79) (n := 41) rfl
theorem wp_80 : Cond.selects "TruckPlatoonsModel" ⟨"TruckPlatoonsModel", "noPlace", "(II)Z"⟩ ⟨"TruckPlatoonsModel", "noPlace", "(II)Z"⟩ ∈ lw_big := x_pr (y := ⟨"TruckPlatoonsModel", "noPlace", "(II)Z"⟩) (k := 80) (n := 41) rfl
theorem wp_81 : Cond.selects "TruckPlatoonsModel" ⟨"TruckPlatoonsModel", "isPlace", "(II)Z"⟩ ⟨"TruckPlatoonsModel", "isPlace", "(II)Z"⟩ ∈ lw_big := x_pr (y := ⟨"TruckPlatoonsModel", "isPlace", "(II)Z"⟩) (k := 81) (n := 41) rfl
theorem wp_82 : Cond.selects "TruckPlatoonsModel" ⟨"TruckPlatoonsModel", "readyAt", "(II)I"⟩ ⟨"TruckPlatoonsModel", "readyAt", "(II)I"⟩ ∈ lw_big := x_pr (y := ⟨"TruckPlatoonsModel", "readyAt", "(II)I"⟩) (k := 82) (n := 41) rfl
theorem wp_83 : Cond.selects "TruckPlatoonsModel" ⟨"TruckPlatoonsModel", "numberOf", "(II)I"⟩ ⟨"TruckPlatoonsModel", "numberOf", "(II)I"⟩ ∈ lw_big := x_pr (y := ⟨"TruckPlatoonsModel", "numberOf", "(II)I"⟩) (k := 83) (n := 41) rfl
theorem wp_84 : Cond.selects "TruckPlatoonsModel" ⟨"TruckPlatoonsModel", "comesAhead", "(IIII)Z"⟩ ⟨"TruckPlatoonsModel", "comesAhead", "(IIII)Z"⟩ ∈ lw_big := x_pr (y := ⟨"TruckPlatoonsModel", "comesAhead", "(IIII)Z"⟩) (k := 84) (n := 41) rfl
theorem wp_85 : Cond.selects "TruckPlatoonsModel" ⟨"TruckPlatoonsModel", "noPlatoon", "(II)Z"⟩ ⟨"TruckPlatoonsModel", "noPlatoon", "(II)Z"⟩ ∈ lw_big := x_pr (y := ⟨"TruckPlatoonsModel", "noPlatoon", "(II)Z"⟩) (k := 85) (n := 41) rfl
theorem wp_86 : Cond.selects "TruckPlatoonsModel" ⟨"TruckPlatoonsModel", "findPlatoon", "(II)Z"⟩ ⟨"TruckPlatoonsModel", "findPlatoon", "(II)Z"⟩ ∈ lw_big := x_pr (y := ⟨"TruckPlatoonsModel", "findPlatoon", "(II)Z"⟩) (k := 86) (n := 41) rfl
theorem wp_87 : Cond.selects "TruckPlatoonsModel" ⟨"TruckPlatoonsModel", "notTwo", "(II)Z"⟩ ⟨"TruckPlatoonsModel", "notTwo", "(II)Z"⟩ ∈ lw_big := x_pr (y := ⟨"TruckPlatoonsModel", "notTwo", "(II)Z"⟩) (k := 87) (n := 41) rfl
theorem wp_88 : Cond.selects "TruckPlatoonsModel" ⟨"TruckPlatoonsModel", "layRun", "(II)V"⟩ ⟨"TruckPlatoonsModel", "layRun", "(II)V"⟩ ∈ lw_big := x_pr (y := ⟨"TruckPlatoonsModel", "layRun", "(II)V"⟩) (k := 88) (n := 41) rfl
theorem wp_89 : Cond.selects "TruckPlatoonsModel" ⟨"TruckPlatoonsModel", "placeOf", "(II)I"⟩ ⟨"TruckPlatoonsModel", "placeOf", "(II)I"⟩ ∈ lw_big := x_pr (y := ⟨"TruckPlatoonsModel", "placeOf", "(II)I"⟩) (k := 89) (n := 41) rfl
theorem wp_90 : Cond.selects "TruckPlatoonsModel" ⟨"TruckPlatoonsModel", "limitAt", "(II)I"⟩ ⟨"TruckPlatoonsModel", "limitAt", "(II)I"⟩ ∈ lw_big := x_pr (y := ⟨"TruckPlatoonsModel", "limitAt", "(II)I"⟩) (k := 90) (n := 41) rfl
theorem wp_91 : Cond.selects "TruckPlatoonsModel" ⟨"TruckPlatoonsModel", "setWaitNow", "(III)I"⟩ ⟨"TruckPlatoonsModel", "setWaitNow", "(III)I"⟩ ∈ lw_big := x_pr (y := ⟨"TruckPlatoonsModel", "setWaitNow", "(III)I"⟩) (k := 91) (n := 41) rfl
theorem wp_92 : Cond.selects "TruckPlatoonsModel" ⟨"TruckPlatoonsModel", "keep", "()V"⟩ ⟨"TruckPlatoonsModel", "keep", "()V"⟩ ∈ lw_big := x_pr (y := ⟨"TruckPlatoonsModel", "keep", "()V"⟩) (k := 92) (n := 41) rfl
theorem wp_93 : Cond.selects "TruckPlatoonsModel" ⟨"TruckPlatoonsModel", "setSpeedNow", "(III)I"⟩ ⟨"TruckPlatoonsModel", "setSpeedNow", "(III)I"⟩ ∈ lw_big := x_pr (y := ⟨"TruckPlatoonsModel", "setSpeedNow", "(III)I"⟩) (k := 93) (n := 41) rfl
theorem wp_94 : Cond.selects "TruckPlatoonsModel" ⟨"TruckPlatoonsModel", "setStartNow", "(II)I"⟩ ⟨"TruckPlatoonsModel", "setStartNow", "(II)I"⟩ ∈ lw_big := x_pr (y := ⟨"TruckPlatoonsModel", "setStartNow", "(II)I"⟩) (k := 94) (n := 41) rfl
theorem wp_95 : Cond.selects "TruckPlatoonsModel" ⟨"TruckPlatoonsModel", "reasonNow", "(II)I"⟩ ⟨"TruckPlatoonsModel", "reasonNow", "(II)I"⟩ ∈ lw_big := x_pr (y := ⟨"TruckPlatoonsModel", "reasonNow", "(II)I"⟩) (k := 95) (n := 41) rfl
theorem wp_96 : Cond.selects "TruckPlatoonsModel" ⟨"TruckPlatoonsModel", "lateness", "(II)I"⟩ ⟨"TruckPlatoonsModel", "lateness", "(II)I"⟩ ∈ lw_big := x_pr (y := ⟨"TruckPlatoonsModel", "lateness", "(II)I"⟩) (k := 96) (n := 41) rfl
theorem wp_97 : Cond.selects "TruckPlatoonsModel" ⟨"TruckPlatoonsModel", "joinRun", "(II)V"⟩ ⟨"TruckPlatoonsModel", "joinRun", "(II)V"⟩ ∈ lw_big := x_pr (y := ⟨"TruckPlatoonsModel", "joinRun", "(II)V"⟩) (k := 97) (n := 41) rfl
theorem wp_98 : Cond.selects "TruckPlatoonsModel" ⟨"TruckPlatoonsModel", "mergeNow", "(II)I"⟩ ⟨"TruckPlatoonsModel", "mergeNow", "(II)I"⟩ ∈ lw_big := x_pr (y := ⟨"TruckPlatoonsModel", "mergeNow", "(II)I"⟩) (k := 98) (n := 41) rfl
theorem wp_99 : Cond.selects "TruckPlatoonsModel" ⟨"TruckPlatoonsModel", "gainNow", "(III)I"⟩ ⟨"TruckPlatoonsModel", "gainNow", "(III)I"⟩ ∈ lw_big := x_pr (y := ⟨"TruckPlatoonsModel", "gainNow", "(III)I"⟩) (k := 99) (n := 41) rfl
theorem wp_100 : Cond.selects "TruckPlatoonsModel" ⟨"TruckPlatoonsModel", "mergeAllNow", "()I"⟩ ⟨"TruckPlatoonsModel", "mergeAllNow", "()I"⟩ ∈ lw_big := x_pr (y := ⟨"TruckPlatoonsModel", "mergeAllNow", "()I"⟩) (k := 100) (n := 41) rfl
theorem wp_101 : Cond.selects "TruckPlatoonsModel" ⟨"TruckPlatoonsModel", "mergedBest", "()Z"⟩ ⟨"TruckPlatoonsModel", "mergedBest", "()Z"⟩ ∈ lw_big := x_pr (y := ⟨"TruckPlatoonsModel", "mergedBest", "()Z"⟩) (k := 101) (n := 41) rfl
theorem wp_102 : Cond.selects "TruckPlatoonsModel" ⟨"TruckPlatoonsModel", "hurryNow", "(I)I"⟩ ⟨"TruckPlatoonsModel", "hurryNow", "(I)I"⟩ ∈ lw_big := x_pr (y := ⟨"TruckPlatoonsModel", "hurryNow", "(I)I"⟩) (k := 102) (n := 41) rfl
theorem wp_103 : Cond.selects "TruckPlatoonsModel" ⟨"TruckPlatoonsModel", "relaxNow", "(I)I"⟩ ⟨"TruckPlatoonsModel", "relaxNow", "(I)I"⟩ ∈ lw_big := x_pr (y := ⟨"TruckPlatoonsModel", "relaxNow", "(I)I"⟩) (k := 103) (n := 41) rfl
theorem wp_104 : Cond.selects "TruckPlatoonsModel" ⟨"TruckPlatoonsModel", "savedOn", "(I)I"⟩ ⟨"TruckPlatoonsModel", "savedOn", "(I)I"⟩ ∈ lw_big := x_pr (y := ⟨"TruckPlatoonsModel", "savedOn", "(I)I"⟩) (k := 104) (n := 41) rfl
theorem wp_105 : Cond.selects "TruckPlatoonsModel" ⟨"TruckPlatoonsModel", "isLong", "()Z"⟩ ⟨"TruckPlatoonsModel", "isLong", "()Z"⟩ ∈ lw_big := x_pr (y := ⟨"TruckPlatoonsModel", "isLong", "()Z"⟩) (k := 105) (n := 41) rfl
theorem wp_106 : Cond.selects "TruckPlatoonsModel" ⟨"TruckPlatoonsModel", "layBest", "()I"⟩ ⟨"TruckPlatoonsModel", "layBest", "()I"⟩ ∈ lw_big := x_pr (y := ⟨"TruckPlatoonsModel", "layBest", "()I"⟩) (k := 106) (n := 41) rfl
theorem wp_107 : Cond.selects "TruckPlatoonsModel" ⟨"TruckPlatoonsModel", "worth", "(I)I"⟩ ⟨"TruckPlatoonsModel", "worth", "(I)I"⟩ ∈ lw_big := x_pr (y := ⟨"TruckPlatoonsModel", "worth", "(I)I"⟩) (k := 107) (n := 41) rfl
theorem wp_108 : Cond.selects "TruckPlatoonsModel" ⟨"TruckPlatoonsModel", "meetTurn", "(IZ)V"⟩ ⟨"TruckPlatoonsModel", "meetTurn", "(IZ)V"⟩ ∈ lw_big := x_pr (y := ⟨"TruckPlatoonsModel", "meetTurn", "(IZ)V"⟩) (k := 108) (n := 41) rfl
theorem wp_109 : Cond.selects "TruckPlatoonsModel" ⟨"TruckPlatoonsModel", "layTurns", "(I)V"⟩ ⟨"TruckPlatoonsModel", "layTurns", "(I)V"⟩ ∈ lw_big := x_pr (y := ⟨"TruckPlatoonsModel", "layTurns", "(I)V"⟩) (k := 109) (n := 41) rfl
theorem wp_110 : Cond.selects "TruckPlatoonsModel" ⟨"TruckPlatoonsModel", "nextTurn", "(I)Z"⟩ ⟨"TruckPlatoonsModel", "nextTurn", "(I)Z"⟩ ∈ lw_big := x_pr (y := ⟨"TruckPlatoonsModel", "nextTurn", "(I)Z"⟩) (k := 110) (n := 41) rfl
theorem wp_111 : Cond.selects "TruckPlatoonsModel" ⟨"TruckPlatoonsModel", "swapTurns", "(II)V"⟩ ⟨"TruckPlatoonsModel", "swapTurns", "(II)V"⟩ ∈ lw_big := x_pr (y := ⟨"TruckPlatoonsModel", "swapTurns", "(II)V"⟩) (k := 111) (n := 41) rfl
theorem wp_112 : Cond.selects "TruckPlatoonsModel" ⟨"TruckPlatoonsModel", "put", "(I)V"⟩ ⟨"TruckPlatoonsModel", "put", "(I)V"⟩ ∈ lw_big := x_pr (y := ⟨"TruckPlatoonsModel", "put", "(I)V"⟩) (k := 112) (n := 41) rfl
theorem wp_113 : Cond.selects "TruckPlatoonsModel" ⟨"TruckPlatoonsModel", "putNumber", "(I)V"⟩ ⟨"TruckPlatoonsModel", "putNumber", "(I)V"⟩ ∈ lw_big := x_pr (y := ⟨"TruckPlatoonsModel", "putNumber", "(I)V"⟩) (k := 113) (n := 41) rfl
theorem wp_114 : Cond.selects "TruckPlatoonsModel" ⟨"TruckPlatoonsModel", "appendBytes", "(I)V"⟩ ⟨"TruckPlatoonsModel", "appendBytes", "(I)V"⟩ ∈ lw_big := x_pr (y := ⟨"TruckPlatoonsModel", "appendBytes", "(I)V"⟩) (k := 114) (n := 41) rfl
theorem wp_115 : Cond.selects "TruckPlatoonsModel" ⟨"TruckPlatoonsModel", "beginText", "()V"⟩ ⟨"TruckPlatoonsModel", "beginText", "()V"⟩ ∈ lw_big := x_pr (y := ⟨"TruckPlatoonsModel", "beginText", "()V"⟩) (k := 115) (n := 41) rfl
theorem wp_116 : Cond.selects "TruckPlatoonsModel" ⟨"TruckPlatoonsModel", "advance", "()V"⟩ ⟨"TruckPlatoonsModel", "advance", "()V"⟩ ∈ lw_big := x_pr (y := ⟨"TruckPlatoonsModel", "advance", "()V"⟩) (k := 116) (n := 41) rfl
theorem wp_117 : Cond.selects "TruckPlatoonsModel" ⟨"TruckPlatoonsModel", "byteAt", "(I)I"⟩ ⟨"TruckPlatoonsModel", "byteAt", "(I)I"⟩ ∈ lw_big := x_pr (y := ⟨"TruckPlatoonsModel", "byteAt", "(I)I"⟩) (k := 117) (n := 41) rfl
theorem wp_118 : Cond.selects "TruckPlatoonsModel" ⟨"TruckPlatoonsModel", "readStatement", "()Z"⟩ ⟨"TruckPlatoonsModel", "readStatement", "()Z"⟩ ∈ lw_big := x_pr (y := ⟨"TruckPlatoonsModel", "readStatement", "()Z"⟩) (k := 118) (n := 41) rfl
theorem wp_119 : Cond.selects "TruckPlatoonsModel" ⟨"TruckPlatoonsModel", "isWord", "(J)Z"⟩ ⟨"TruckPlatoonsModel", "isWord", "(J)Z"⟩ ∈ lw_big := x_pr (y := ⟨"TruckPlatoonsModel", "isWord", "(J)Z"⟩) (k := 119) (n := 41) rfl
theorem wp_120 : Cond.selects "TruckPlatoonsModel" ⟨"TruckPlatoonsModel", "readRoad", "()Z"⟩ ⟨"TruckPlatoonsModel", "readRoad", "()Z"⟩ ∈ lw_big := x_pr (y := ⟨"TruckPlatoonsModel", "readRoad", "()Z"⟩) (k := 120) (n := 41) rfl
theorem wp_121 : Cond.selects "TruckPlatoonsModel" ⟨"TruckPlatoonsModel", "fail", "(I)Z"⟩ ⟨"TruckPlatoonsModel", "fail", "(I)Z"⟩ ∈ lw_big := x_pr (y := ⟨"TruckPlatoonsModel", "fail", "(I)Z"⟩) (k := 121) (n := 41) rfl
theorem wp_122 : Cond.selects "TruckPlatoonsModel" ⟨"TruckPlatoonsModel", "readInto", "(III)Z"⟩ ⟨"TruckPlatoonsModel", "readInto", "(III)Z"⟩ ∈ lw_big := x_pr (y := ⟨"TruckPlatoonsModel", "readInto", "(III)Z"⟩) (k := 122) (n := 41) rfl
theorem wp_123 : Cond.selects "TruckPlatoonsModel" ⟨"TruckPlatoonsModel", "readNumber", "(II)Z"⟩ ⟨"TruckPlatoonsModel", "readNumber", "(II)Z"⟩ ∈ lw_big := x_pr (y := ⟨"TruckPlatoonsModel", "readNumber", "(II)Z"⟩) (k := 123) (n := 41) rfl
theorem wp_124 : Cond.selects "TruckPlatoonsModel" ⟨"TruckPlatoonsModel", "readEnd", "()Z"⟩ ⟨"TruckPlatoonsModel", "readEnd", "()Z"⟩ ∈ lw_big := x_pr (y := ⟨"TruckPlatoonsModel", "readEnd", "()Z"⟩) (k := 124) (n := 41) rfl
theorem wp_125 : Cond.selects "TruckPlatoonsModel" ⟨"TruckPlatoonsModel", "readTruck", "()Z"⟩ ⟨"TruckPlatoonsModel", "readTruck", "()Z"⟩ ∈ lw_big := x_pr (y := ⟨"TruckPlatoonsModel", "readTruck", "()Z"⟩) (k := 125) (n := 41) rfl
theorem wp_126 : Cond.selects "TruckPlatoonsModel" ⟨"TruckPlatoonsModel", "readPlace", "(I)Z"⟩ ⟨"TruckPlatoonsModel", "readPlace", "(I)Z"⟩ ∈ lw_big := x_pr (y := ⟨"TruckPlatoonsModel", "readPlace", "(I)Z"⟩) (k := 126) (n := 41) rfl
theorem wp_127 : Cond.selects "TruckPlatoonsModel" ⟨"TruckPlatoonsModel", "toldRoad", "(II)I"⟩ ⟨"TruckPlatoonsModel", "toldRoad", "(II)I"⟩ ∈ lw_big := x_pr (y := ⟨"TruckPlatoonsModel", "toldRoad", "(II)I"⟩) (k := 127) (n := 41) rfl
theorem wp_128 : Cond.selects "TruckPlatoonsModel" ⟨"TruckPlatoonsModel", "readCommand", "()Z"⟩ ⟨"TruckPlatoonsModel", "readCommand", "()Z"⟩ ∈ lw_big := x_pr (y := ⟨"TruckPlatoonsModel", "readCommand", "()Z"⟩) (k := 128) (n := 41) rfl
theorem wp_129 : Cond.selects "TruckPlatoonsModel" ⟨"TruckPlatoonsModel", "commandHere", "()I"⟩ ⟨"TruckPlatoonsModel", "commandHere", "()I"⟩ ∈ lw_big := x_pr (y := ⟨"TruckPlatoonsModel", "commandHere", "()I"⟩) (k := 129) (n := 41) rfl
theorem wp_130 : Cond.selects "TruckPlatoonsModel" ⟨"TruckPlatoonsModel", "readArguments", "(I)Z"⟩ ⟨"TruckPlatoonsModel", "readArguments", "(I)Z"⟩ ∈ lw_big := x_pr (y := ⟨"TruckPlatoonsModel", "readArguments", "(I)Z"⟩) (k := 130) (n := 41) rfl
theorem wp_131 : Cond.selects "TruckPlatoonsModel" ⟨"TruckPlatoonsModel", "readNumberOf", "(III)Z"⟩ ⟨"TruckPlatoonsModel", "readNumberOf", "(III)Z"⟩ ∈ lw_big := x_pr (y := ⟨"TruckPlatoonsModel", "readNumberOf", "(III)Z"⟩) (k := 131) (n := 41) rfl
theorem wp_132 : Cond.selects "TruckPlatoonsModel" ⟨"TruckPlatoonsModel", "isDone", "(I)Z"⟩ ⟨"TruckPlatoonsModel", "isDone", "(I)Z"⟩ ∈ lw_big := x_pr (y := ⟨"TruckPlatoonsModel", "isDone", "(I)Z"⟩) (k := 132) (n := 41) rfl
theorem inB0 : ∀ w ∈ u_ws RX0 TX0 5, w ∈ lw_big := x_uws (fun k hk => match k, hk with
  | 0, _ => w_2_88
  | 1, _ => w_2_90
  | 2, _ => w_2_92
  | 3, _ => w_2_94
  | 4, _ => w_2_96
  | n + 5, h => absurd h (by omega))
theorem inB1 : ∀ w ∈ u_ws RX1 TX1 11, w ∈ lw_big := x_uws (fun k hk => match k, hk with
  | 0, _ => w_1_128
  | 1, _ => w_1_130
  | 2, _ => w_1_132
  | 3, _ => w_1_134
  | 4, _ => w_1_136
  | 5, _ => w_1_138
  | 6, _ => w_1_140
  | 7, _ => w_1_142
  | 8, _ => w_1_144
  | 9, _ => w_1_146
  | 10, _ => w_1_148
  | n + 11, h => absurd h (by omega))
theorem inB2 : ∀ w ∈ u_ws RX2 TX2 5, w ∈ lw_big := x_uws (fun k hk => match k, hk with
  | 0, _ => w_2_114
  | 1, _ => w_2_116
  | 2, _ => w_2_118
  | 3, _ => w_2_120
  | 4, _ => w_2_122
  | n + 5, h => absurd h (by omega))
theorem inB3 : ∀ w ∈ u_ws RX3 TX3 1, w ∈ lw_big := x_uws (fun k hk => match k, hk with
  | 0, _ => w_1_162
  | n + 1, h => absurd h (by omega))
theorem inB4 : ∀ w ∈ u_ws RX4 TX4 7, w ∈ lw_big := x_uws (fun k hk => match k, hk with
  | 0, _ => w_2_60
  | 1, _ => w_2_62
  | 2, _ => w_2_64
  | 3, _ => w_2_66
  | 4, _ => w_2_68
  | 5, _ => w_2_70
  | 6, _ => w_2_72
  | n + 7, h => absurd h (by omega))
theorem inB5 : ∀ w ∈ u_ws RX5 TX5 2, w ∈ lw_big := x_uws (fun k hk => match k, hk with
  | 0, _ => w_2_135
  | 1, _ => w_2_137
  | n + 2, h => absurd h (by omega))
theorem inB6 : ∀ w ∈ u_ws RX6 TX6 15, w ∈ lw_big := x_uws (fun k hk => match k, hk with
  | 0, _ => w_2_12
  | 1, _ => w_2_14
  | 2, _ => w_2_16
  | 3, _ => w_2_18
  | 4, _ => w_2_20
  | 5, _ => w_2_22
  | 6, _ => w_2_24
  | 7, _ => w_2_26
  | 8, _ => w_2_28
  | 9, _ => w_2_30
  | 10, _ => w_2_32
  | 11, _ => w_2_34
  | 12, _ => w_2_36
  | 13, _ => w_2_38
  | 14, _ => w_2_40
  | n + 15, h => absurd h (by omega))
theorem inB7 : ∀ w ∈ u_ws RX7 TX7 6, w ∈ lw_big := x_uws (fun k hk => match k, hk with
  | 0, _ => w_1_201
  | 1, _ => w_1_203
  | 2, _ => w_1_205
  | 3, _ => w_1_207
  | 4, _ => w_1_209
  | 5, _ => w_1_211
  | n + 6, h => absurd h (by omega))
theorem inB8 : ∀ w ∈ u_ws RX8 TX8 3, w ∈ lw_big := x_uws (fun k hk => match k, hk with
  | 0, _ => w_1_175
  | 1, _ => w_1_177
  | 2, _ => w_1_179
  | n + 3, h => absurd h (by omega))
theorem inB9 : ∀ w ∈ u_ws RX9 TX9 8, w ∈ lw_big := x_uws (fun k hk => match k, hk with
  | 0, _ => w_1_58
  | 1, _ => w_1_60
  | 2, _ => w_1_62
  | 3, _ => w_1_64
  | 4, _ => w_1_66
  | 5, _ => w_1_68
  | 6, _ => w_1_70
  | 7, _ => w_1_72
  | n + 8, h => absurd h (by omega))
theorem inB10 : ∀ w ∈ u_ws RX10 TX10 12, w ∈ lw_big := x_uws (fun k hk => match k, hk with
  | 0, _ => w_2_152
  | 1, _ => w_2_154
  | 2, _ => w_2_156
  | 3, _ => w_2_158
  | 4, _ => w_2_160
  | 5, _ => w_2_162
  | 6, _ => w_2_164
  | 7, _ => w_2_166
  | 8, _ => w_2_168
  | 9, _ => w_2_170
  | 10, _ => w_2_172
  | 11, _ => w_2_174
  | n + 12, h => absurd h (by omega))
theorem inB11 : ∀ w ∈ u_ws RX11 TX11 41, w ∈ lw_big := x_uws (fun k hk => match k, hk with
  | 0, _ => w_6_231
  | 1, _ => w_6_233
  | 2, _ => w_6_235
  | 3, _ => w_6_237
  | 4, _ => w_6_239
  | 5, _ => w_7_1
  | 6, _ => w_7_3
  | 7, _ => w_7_5
  | 8, _ => w_7_7
  | 9, _ => w_7_9
  | 10, _ => w_7_11
  | 11, _ => w_7_13
  | 12, _ => w_7_15
  | 13, _ => w_7_17
  | 14, _ => w_7_19
  | 15, _ => w_7_21
  | 16, _ => w_7_23
  | 17, _ => w_7_25
  | 18, _ => w_7_27
  | 19, _ => w_7_29
  | 20, _ => w_7_31
  | 21, _ => w_7_33
  | 22, _ => w_7_35
  | 23, _ => w_7_37
  | 24, _ => w_7_39
  | 25, _ => w_7_41
  | 26, _ => w_7_43
  | 27, _ => w_7_45
  | 28, _ => w_7_47
  | 29, _ => w_7_49
  | 30, _ => w_7_51
  | 31, _ => w_7_53
  | 32, _ => w_7_55
  | 33, _ => w_7_57
  | 34, _ => w_7_59
  | 35, _ => w_7_61
  | 36, _ => w_7_63
  | 37, _ => w_7_65
  | 38, _ => w_7_67
  | 39, _ => w_7_69
  | 40, _ => w_7_71
  | n + 41, h => absurd h (by omega))
