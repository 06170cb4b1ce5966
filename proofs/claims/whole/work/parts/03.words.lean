/-! the tables' words that are good (they stay over calls), each by its place -/
def TB : List Cond := lw_tbl.filter goodWord
theorem tb_lw : ∀ w ∈ TB, w ∈ lw_tbl := fun _ h => (List.mem_filter.mp h).1
theorem tb_in {w : Cond} (h : w ∈ lw_tbl) (hg : goodWord w = true) : w ∈ TB := List.mem_filter.mpr ⟨h, hg⟩
theorem tm_1 {w : Cond} (h : w ∈ tables_1_1) : w ∈ tables_1 := (List.mem_append_left _ h)
theorem tb_t1 {w : Cond} (i : Nat) (h : tables_1_1[i]? = some w) (hg : goodWord w = true) : w ∈ TB := tb_in (List.mem_append_right _ (tm_1 (List.mem_of_getElem? h))) hg
theorem tm_2 {w : Cond} (h : w ∈ tables_1_2) : w ∈ tables_1 := (List.mem_append_right _ (List.mem_append_left _ h))
theorem tb_t2 {w : Cond} (i : Nat) (h : tables_1_2[i]? = some w) (hg : goodWord w = true) : w ∈ TB := tb_in (List.mem_append_right _ (tm_2 (List.mem_of_getElem? h))) hg
theorem tm_3 {w : Cond} (h : w ∈ tables_1_3) : w ∈ tables_1 := (List.mem_append_right _ (List.mem_append_right _ (List.mem_append_left _ h)))
theorem tb_t3 {w : Cond} (i : Nat) (h : tables_1_3[i]? = some w) (hg : goodWord w = true) : w ∈ TB := tb_in (List.mem_append_right _ (tm_3 (List.mem_of_getElem? h))) hg
theorem tm_4 {w : Cond} (h : w ∈ tables_1_4) : w ∈ tables_1 := (List.mem_append_right _ (List.mem_append_right _ (List.mem_append_right _ (List.mem_append_left _ h))))
theorem tb_t4 {w : Cond} (i : Nat) (h : tables_1_4[i]? = some w) (hg : goodWord w = true) : w ∈ TB := tb_in (List.mem_append_right _ (tm_4 (List.mem_of_getElem? h))) hg
theorem tm_5 {w : Cond} (h : w ∈ tables_1_5) : w ∈ tables_1 := (List.mem_append_right _ (List.mem_append_right _ (List.mem_append_right _ (List.mem_append_right _ (List.mem_append_left _ h)))))
theorem tb_t5 {w : Cond} (i : Nat) (h : tables_1_5[i]? = some w) (hg : goodWord w = true) : w ∈ TB := tb_in (List.mem_append_right _ (tm_5 (List.mem_of_getElem? h))) hg
theorem tm_6 {w : Cond} (h : w ∈ tables_1_6) : w ∈ tables_1 := (List.mem_append_right _ (List.mem_append_right _ (List.mem_append_right _ (List.mem_append_right _ (List.mem_append_right _ (List.mem_append_left _ h))))))
theorem tb_t6 {w : Cond} (i : Nat) (h : tables_1_6[i]? = some w) (hg : goodWord w = true) : w ∈ TB := tb_in (List.mem_append_right _ (tm_6 (List.mem_of_getElem? h))) hg
theorem tm_7 {w : Cond} (h : w ∈ tables_1_7) : w ∈ tables_1 := (List.mem_append_right _ (List.mem_append_right _ (List.mem_append_right _ (List.mem_append_right _ (List.mem_append_right _ (List.mem_append_right _ (List.mem_append_left _ h)))))))
theorem tb_t7 {w : Cond} (i : Nat) (h : tables_1_7[i]? = some w) (hg : goodWord w = true) : w ∈ TB := tb_in (List.mem_append_right _ (tm_7 (List.mem_of_getElem? h))) hg
theorem tm_8 {w : Cond} (h : w ∈ tables_1_8) : w ∈ tables_1 := (List.mem_append_right _ (List.mem_append_right _ (List.mem_append_right _ (List.mem_append_right _ (List.mem_append_right _ (List.mem_append_right _ (List.mem_append_right _ h)))))))
theorem tb_t8 {w : Cond} (i : Nat) (h : tables_1_8[i]? = some w) (hg : goodWord w = true) : w ∈ TB := tb_in (List.mem_append_right _ (tm_8 (List.mem_of_getElem? h))) hg
theorem tb_s {w : Cond} (i : Nat) (h : (k2_sels lw_privs)[i]? = some w) (hg : goodWord w = true) : w ∈ TB := tb_in (List.mem_append_left _ (List.mem_of_getElem? h)) hg
theorem tb_g : GoodIn TB TB := fun _ h => ⟨h, good_of_word (List.mem_filter.mp h).2⟩
theorem tb_gc {wc : Cond} (hc : wc ∈ TB) : GoodIn TB (wc :: TB) := fun w h => (List.mem_cons.mp h).elim (fun e => e ▸ tb_g wc hc) (fun h => tb_g w h)
theorem kw_0 : (Jvm.Cond.initialized "HalfMastLaw") ∈ TB := tb_t1 0 rfl rfl
theorem kw_1 : (Jvm.Cond.initialized "HalfMast") ∈ TB := tb_t1 1 rfl rfl
theorem kw_2 : (Jvm.Cond.initialized "HalfMast$Tape") ∈ TB := tb_t1 2 rfl rfl
theorem kw_3 : (Jvm.Cond.initialized "java/lang/Enum") ∈ TB := tb_t1 3 rfl rfl
theorem kw_4 : (Jvm.Cond.initialized "HalfMast$Word") ∈ TB := tb_t1 4 rfl rfl
theorem kw_5 : (Jvm.Cond.initialized "HalfMast$History") ∈ TB := tb_t1 5 rfl rfl
theorem kw_6 : (Jvm.Cond.initialized "HalfMast$State") ∈ TB := tb_t1 6 rfl rfl
theorem kw_7 : (Jvm.Cond.initialized "HalfMast$Notes") ∈ TB := tb_t1 7 rfl rfl
theorem kw_8 : (Jvm.Cond.initialized "HalfMast$Course") ∈ TB := tb_t1 8 rfl rfl
theorem kw_9 : (Jvm.Cond.initialized "HalfMast$Town") ∈ TB := tb_t1 9 rfl rfl
theorem kw_10 : (Jvm.Cond.initialized "HalfMast$Law") ∈ TB := tb_t1 10 rfl rfl
theorem kw_11 : (Jvm.Cond.initialized "HalfMast$Year") ∈ TB := tb_t1 11 rfl rfl
theorem kw_12 : (Jvm.Cond.initialized "HalfMast$Mark") ∈ TB := tb_t1 12 rfl rfl
theorem kw_13 : (Jvm.Cond.initialized "java/util/Arrays") ∈ TB := tb_t1 13 rfl rfl
theorem kw_14 : (Jvm.Cond.initialized "java/lang/System") ∈ TB := tb_t1 14 rfl rfl
theorem kw_15 : (Jvm.Cond.initialized "java/lang/Math") ∈ TB := tb_t1 15 rfl rfl
theorem kw_16 : (Jvm.Cond.initialized "HalfMastModel") ∈ TB := tb_t1 16 rfl rfl
theorem kw_17 : (Jvm.Cond.initialized "java/lang/String") ∈ TB := tb_t1 17 rfl rfl
theorem kw_18 : (Jvm.Cond.initialized "java/lang/StringLatin1") ∈ TB := tb_t1 18 rfl rfl
theorem kw_19 : (Jvm.Cond.initialized "java/lang/StringUTF16") ∈ TB := tb_t1 19 rfl rfl
theorem kw_20 : (Jvm.Cond.initialized "jdk/internal/util/Preconditions") ∈ TB := tb_t1 20 rfl rfl
theorem kw_21 : (Jvm.Cond.initialized "java/lang/Character") ∈ TB := tb_t1 21 rfl rfl
theorem kw_22 : (Jvm.Cond.initialized "HalfMast$1") ∈ TB := tb_t1 22 rfl rfl
theorem kw_23 : (Jvm.Cond.initialized "java/lang/Integer") ∈ TB := tb_t1 23 rfl rfl
theorem kw_24 : (Jvm.Cond.initialized "java/lang/Throwable") ∈ TB := tb_t1 24 rfl rfl
theorem kw_25 : (Jvm.Cond.initialized "java/lang/Exception") ∈ TB := tb_t1 25 rfl rfl
theorem kw_26 : (Jvm.Cond.initialized "java/lang/RuntimeException") ∈ TB := tb_t1 26 rfl rfl
theorem kw_27 : (Jvm.Cond.initialized "java/util/NoSuchElementException") ∈ TB := tb_t1 27 rfl rfl
theorem kw_28 : (Jvm.Cond.classLink "HalfMastLaw" (8 : Nat) "HalfMast") ∈ TB := tb_t1 28 rfl rfl
theorem kw_29 : (Jvm.Cond.instantiable "HalfMast" (13 : Nat)) ∈ TB := tb_t1 29 rfl rfl
theorem kw_30 : (Jvm.Cond.methodLink "HalfMastLaw" (15 : Nat) ({ cls := "HalfMast", name := "<init>", desc := "()V" } : Jvm.MethodName)) ∈ TB := tb_t1 30 rfl rfl
theorem kw_31 : (Jvm.Cond.instanceMethod ({ cls := "HalfMast", name := "<init>", desc := "()V" } : Jvm.MethodName)) ∈ TB := tb_t1 31 rfl rfl
theorem kw_32 : (Jvm.Cond.code ({ cls := "HalfMast", name := "<init>", desc := "()V" } : Jvm.MethodName) prog_1_method_1_code (2 : Nat) (Option.none : Option Jvm.ClassFile.FieldType)) ∈ TB := tb_t1 32 rfl rfl
theorem kw_33 : (Jvm.Cond.methodLink "HalfMast" (3 : Nat) ({ cls := "java/lang/Object", name := "<init>", desc := "()V" } : Jvm.MethodName)) ∈ TB := tb_t1 33 rfl rfl
theorem kw_34 : (Jvm.Cond.instanceMethod ({ cls := "java/lang/Object", name := "<init>", desc := "()V" } : Jvm.MethodName)) ∈ TB := tb_t1 34 rfl rfl
theorem kw_35 : (Jvm.Cond.code ({ cls := "java/lang/Object", name := "<init>", desc := "()V" } : Jvm.MethodName) object_method_1_code (1 : Nat) (Option.none : Option Jvm.ClassFile.FieldType)) ∈ TB := tb_t1 35 rfl rfl
theorem kw_36 : (Jvm.Cond.classLink "HalfMast" (9 : Nat) "HalfMast$Tape") ∈ TB := tb_t1 36 rfl rfl
theorem kw_37 : (Jvm.Cond.instantiable "HalfMast$Tape" (9 : Nat)) ∈ TB := tb_t1 37 rfl rfl
theorem kw_39 : (Jvm.Cond.instanceMethod ({ cls := "HalfMast$Tape", name := "<init>", desc := "()V" } : Jvm.MethodName)) ∈ TB := tb_t1 39 rfl rfl
theorem kw_40 : (Jvm.Cond.code ({ cls := "HalfMast$Tape", name := "<init>", desc := "()V" } : Jvm.MethodName) prog_9_method_1_code (1 : Nat) (Option.none : Option Jvm.ClassFile.FieldType)) ∈ TB := tb_t1 40 rfl rfl
theorem kw_41 : (Jvm.Cond.methodLink "HalfMast$Tape" (3 : Nat) ({ cls := "java/lang/Object", name := "<init>", desc := "()V" } : Jvm.MethodName)) ∈ TB := tb_t1 41 rfl rfl
theorem kw_42 : (Jvm.Cond.fieldLink "HalfMast$Tape" (15 : Nat) "HalfMast$Word" "OTHER" "LHalfMast$Word;") ∈ TB := tb_t1 42 rfl rfl
theorem kw_44 : (Jvm.Cond.fieldLink "HalfMast$Tape" (9 : Nat) "HalfMast$Tape" "signs" "[C") ∈ TB := tb_t1 44 rfl rfl
theorem kw_46 : (Jvm.Cond.fieldLink "HalfMast$Tape" (28 : Nat) "HalfMast$Tape" "length" "I") ∈ TB := tb_t1 46 rfl rfl
theorem kw_47 : (Jvm.Cond.fieldLink "HalfMast$Tape" (41 : Nat) "HalfMast$Tape" "place" "I") ∈ TB := tb_t1 47 rfl rfl
theorem kw_48 : (Jvm.Cond.fieldLink "HalfMast$Tape" (32 : Nat) "HalfMast$Tape" "behind" "I") ∈ TB := tb_t1 48 rfl rfl
theorem kw_49 : (Jvm.Cond.fieldLink "HalfMast$Tape" (48 : Nat) "HalfMast$Tape" "sort" "I") ∈ TB := tb_t1 49 rfl rfl
theorem kw_50 : (Jvm.Cond.fieldLink "HalfMast$Tape" (82 : Nat) "HalfMast$Tape" "number" "I") ∈ TB := tb_t1 50 rfl rfl
theorem kw_53 : (Jvm.Cond.fieldLink "HalfMast$Tape" (72 : Nat) "HalfMast$Tape" "letters" "J") ∈ TB := tb_t1 53 rfl rfl
theorem kw_54 : (Jvm.Cond.fieldLink "HalfMast$Tape" (21 : Nat) "HalfMast$Tape" "word" "LHalfMast$Word;") ∈ TB := tb_t1 54 rfl rfl
theorem kw_58 : (Jvm.Cond.fieldLink "HalfMast$Tape" (35 : Nat) "HalfMast$Tape" "fault" "I") ∈ TB := tb_t1 58 rfl rfl
theorem kw_61 : (Jvm.Cond.laysFinal "HalfMast$Tape" "HalfMast$Tape" "signs" "[C") ∈ TB := tb_t1 61 rfl rfl
theorem kw_62 : (Jvm.Cond.soleField "HalfMast$Tape" "signs") ∈ TB := tb_t1 62 rfl rfl
theorem kw_63 : (Jvm.Cond.lays "HalfMast$Tape" "HalfMast$Tape" "length" "I") ∈ TB := tb_t1 63 rfl rfl
theorem kw_64 : (Jvm.Cond.soleField "HalfMast$Tape" "length") ∈ TB := tb_t1 64 rfl rfl
theorem kw_65 : (Jvm.Cond.lays "HalfMast$Tape" "HalfMast$Tape" "place" "I") ∈ TB := tb_t1 65 rfl rfl
theorem kw_66 : (Jvm.Cond.soleField "HalfMast$Tape" "place") ∈ TB := tb_t1 66 rfl rfl
theorem kw_67 : (Jvm.Cond.lays "HalfMast$Tape" "HalfMast$Tape" "behind" "I") ∈ TB := tb_t1 67 rfl rfl
theorem kw_68 : (Jvm.Cond.soleField "HalfMast$Tape" "behind") ∈ TB := tb_t1 68 rfl rfl
theorem kw_69 : (Jvm.Cond.lays "HalfMast$Tape" "HalfMast$Tape" "sort" "I") ∈ TB := tb_t1 69 rfl rfl
theorem kw_70 : (Jvm.Cond.soleField "HalfMast$Tape" "sort") ∈ TB := tb_t1 70 rfl rfl
theorem kw_71 : (Jvm.Cond.lays "HalfMast$Tape" "HalfMast$Tape" "number" "I") ∈ TB := tb_t1 71 rfl rfl
theorem kw_72 : (Jvm.Cond.soleField "HalfMast$Tape" "number") ∈ TB := tb_t1 72 rfl rfl
theorem kw_73 : (Jvm.Cond.lays "HalfMast$Tape" "HalfMast$Tape" "letters" "J") ∈ TB := tb_t1 73 rfl rfl
theorem kw_74 : (Jvm.Cond.soleField "HalfMast$Tape" "letters") ∈ TB := tb_t1 74 rfl rfl
theorem kw_75 : (Jvm.Cond.lays "HalfMast$Tape" "HalfMast$Tape" "word" "LHalfMast$Word;") ∈ TB := tb_t1 75 rfl rfl
theorem kw_76 : (Jvm.Cond.soleField "HalfMast$Tape" "word") ∈ TB := tb_t1 76 rfl rfl
theorem kw_77 : (Jvm.Cond.lays "HalfMast$Tape" "HalfMast$Tape" "fault" "I") ∈ TB := tb_t1 77 rfl rfl
theorem kw_78 : (Jvm.Cond.soleField "HalfMast$Tape" "fault") ∈ TB := tb_t1 78 rfl rfl
theorem kw_79 : (Jvm.Cond.superclass "HalfMast$Tape" "java/lang/Object") ∈ TB := tb_t1 79 rfl rfl
theorem kw_80 : (Jvm.Cond.arrayClass Jvm.ClassFile.FieldType.char) ∈ TB := tb_t1 80 rfl rfl
theorem kw_81 : (Jvm.Cond.classLink "HalfMast" (16 : Nat) "HalfMast$History") ∈ TB := tb_t1 81 rfl rfl
theorem kw_82 : (Jvm.Cond.instantiable "HalfMast$History" (3 : Nat)) ∈ TB := tb_t1 82 rfl rfl
theorem kw_84 : (Jvm.Cond.instanceMethod ({ cls := "HalfMast$History", name := "<init>", desc := "()V" } : Jvm.MethodName)) ∈ TB := tb_t1 84 rfl rfl
theorem kw_85 : (Jvm.Cond.code ({ cls := "HalfMast$History", name := "<init>", desc := "()V" } : Jvm.MethodName) prog_4_method_1_code (2 : Nat) (Option.none : Option Jvm.ClassFile.FieldType)) ∈ TB := tb_t1 85 rfl rfl
theorem kw_86 : (Jvm.Cond.methodLink "HalfMast$History" (3 : Nat) ({ cls := "java/lang/Object", name := "<init>", desc := "()V" } : Jvm.MethodName)) ∈ TB := tb_t1 86 rfl rfl
theorem kw_87 : (Jvm.Cond.classLink "HalfMast$History" (9 : Nat) "HalfMast$State") ∈ TB := tb_t1 87 rfl rfl
theorem kw_89 : (Jvm.Cond.instantiable "HalfMast$State" (3 : Nat)) ∈ TB := tb_t1 89 rfl rfl
theorem kw_91 : (Jvm.Cond.instanceMethod ({ cls := "HalfMast$State", name := "<init>", desc := "()V" } : Jvm.MethodName)) ∈ TB := tb_t1 91 rfl rfl
theorem kw_92 : (Jvm.Cond.code ({ cls := "HalfMast$State", name := "<init>", desc := "()V" } : Jvm.MethodName) prog_8_method_1_code (1 : Nat) (Option.none : Option Jvm.ClassFile.FieldType)) ∈ TB := tb_t1 92 rfl rfl
theorem kw_93 : (Jvm.Cond.methodLink "HalfMast$State" (3 : Nat) ({ cls := "java/lang/Object", name := "<init>", desc := "()V" } : Jvm.MethodName)) ∈ TB := tb_t1 93 rfl rfl
theorem kw_94 : (Jvm.Cond.fieldLink "HalfMast$State" (9 : Nat) "HalfMast$State" "lacks" "[I") ∈ TB := tb_t1 94 rfl rfl
theorem kw_97 : (Jvm.Cond.fieldLink "HalfMast$State" (15 : Nat) "HalfMast$State" "feels" "[I") ∈ TB := tb_t1 97 rfl rfl
theorem kw_99 : (Jvm.Cond.fieldLink "HalfMast$State" (24 : Nat) "HalfMast$State" "date" "I") ∈ TB := tb_t1 99 rfl rfl
theorem kw_102 : (Jvm.Cond.laysFinal "HalfMast$State" "HalfMast$State" "lacks" "[I") ∈ TB := tb_t1 102 rfl rfl
theorem kw_103 : (Jvm.Cond.soleField "HalfMast$State" "lacks") ∈ TB := tb_t1 103 rfl rfl
theorem kw_104 : (Jvm.Cond.laysFinal "HalfMast$State" "HalfMast$State" "feels" "[I") ∈ TB := tb_t1 104 rfl rfl
theorem kw_105 : (Jvm.Cond.soleField "HalfMast$State" "feels") ∈ TB := tb_t1 105 rfl rfl
theorem kw_106 : (Jvm.Cond.lays "HalfMast$State" "HalfMast$State" "date" "I") ∈ TB := tb_t1 106 rfl rfl
theorem kw_107 : (Jvm.Cond.soleField "HalfMast$State" "date") ∈ TB := tb_t1 107 rfl rfl
theorem kw_108 : (Jvm.Cond.superclass "HalfMast$State" "java/lang/Object") ∈ TB := tb_t1 108 rfl rfl
theorem kw_109 : (Jvm.Cond.arrayClass Jvm.ClassFile.FieldType.int) ∈ TB := tb_t1 109 rfl rfl
theorem kw_110 : (Jvm.Cond.fieldLink "HalfMast$History" (11 : Nat) "HalfMast$History" "states" "[LHalfMast$State;") ∈ TB := tb_t1 110 rfl rfl
theorem kw_111 : (Jvm.Cond.fieldLink "HalfMast$History" (22 : Nat) "HalfMast$History" "next" "I") ∈ TB := tb_t1 111 rfl rfl
theorem kw_112 : (Jvm.Cond.fieldLink "HalfMast$History" (18 : Nat) "HalfMast$History" "many" "I") ∈ TB := tb_t1 112 rfl rfl
theorem kw_114 : (Jvm.Cond.laysFinal "HalfMast$History" "HalfMast$History" "states" "[LHalfMast$State;") ∈ TB := tb_t1 114 rfl rfl
theorem kw_115 : (Jvm.Cond.soleField "HalfMast$History" "states") ∈ TB := tb_t1 115 rfl rfl
theorem kw_116 : (Jvm.Cond.lays "HalfMast$History" "HalfMast$History" "next" "I") ∈ TB := tb_t1 116 rfl rfl
theorem kw_117 : (Jvm.Cond.soleField "HalfMast$History" "next") ∈ TB := tb_t1 117 rfl rfl
theorem kw_118 : (Jvm.Cond.lays "HalfMast$History" "HalfMast$History" "many" "I") ∈ TB := tb_t1 118 rfl rfl
theorem kw_119 : (Jvm.Cond.soleField "HalfMast$History" "many") ∈ TB := tb_t1 119 rfl rfl
theorem kw_120 : (Jvm.Cond.superclass "HalfMast$History" "java/lang/Object") ∈ TB := tb_t1 120 rfl rfl
theorem kw_121 : (Jvm.Cond.classLink "HalfMast" (23 : Nat) "HalfMast$Notes") ∈ TB := tb_t1 121 rfl rfl
theorem kw_122 : (Jvm.Cond.instantiable "HalfMast$Notes" (3 : Nat)) ∈ TB := tb_t1 122 rfl rfl
theorem kw_124 : (Jvm.Cond.instanceMethod ({ cls := "HalfMast$Notes", name := "<init>", desc := "()V" } : Jvm.MethodName)) ∈ TB := tb_t1 124 rfl rfl
theorem kw_125 : (Jvm.Cond.code ({ cls := "HalfMast$Notes", name := "<init>", desc := "()V" } : Jvm.MethodName) prog_7_method_1_code (1 : Nat) (Option.none : Option Jvm.ClassFile.FieldType)) ∈ TB := tb_t1 125 rfl rfl
theorem kw_126 : (Jvm.Cond.methodLink "HalfMast$Notes" (3 : Nat) ({ cls := "java/lang/Object", name := "<init>", desc := "()V" } : Jvm.MethodName)) ∈ TB := tb_t1 126 rfl rfl
theorem kw_127 : (Jvm.Cond.fieldLink "HalfMast$Notes" (9 : Nat) "HalfMast$Notes" "days" "[I") ∈ TB := tb_t1 127 rfl rfl
theorem kw_128 : (Jvm.Cond.fieldLink "HalfMast$Notes" (15 : Nat) "HalfMast$Notes" "heights" "[I") ∈ TB := tb_t1 128 rfl rfl
theorem kw_129 : (Jvm.Cond.fieldLink "HalfMast$Notes" (18 : Nat) "HalfMast$Notes" "many" "I") ∈ TB := tb_t1 129 rfl rfl
theorem kw_131 : (Jvm.Cond.laysFinal "HalfMast$Notes" "HalfMast$Notes" "days" "[I") ∈ TB := tb_t1 131 rfl rfl
theorem kw_132 : (Jvm.Cond.soleField "HalfMast$Notes" "days") ∈ TB := tb_t1 132 rfl rfl
theorem kw_133 : (Jvm.Cond.laysFinal "HalfMast$Notes" "HalfMast$Notes" "heights" "[I") ∈ TB := tb_t1 133 rfl rfl
theorem kw_134 : (Jvm.Cond.soleField "HalfMast$Notes" "heights") ∈ TB := tb_t1 134 rfl rfl
theorem kw_135 : (Jvm.Cond.lays "HalfMast$Notes" "HalfMast$Notes" "many" "I") ∈ TB := tb_t1 135 rfl rfl
theorem kw_136 : (Jvm.Cond.soleField "HalfMast$Notes" "many") ∈ TB := tb_t1 136 rfl rfl
theorem kw_137 : (Jvm.Cond.superclass "HalfMast$Notes" "java/lang/Object") ∈ TB := tb_t1 137 rfl rfl
theorem kw_138 : (Jvm.Cond.classLink "HalfMast" (33 : Nat) "HalfMast$Mark") ∈ TB := tb_t1 138 rfl rfl
theorem kw_140 : (Jvm.Cond.classLink "HalfMast" (43 : Nat) "HalfMast$Course") ∈ TB := tb_t1 140 rfl rfl
theorem kw_141 : (Jvm.Cond.instantiable "HalfMast$Course" (6 : Nat)) ∈ TB := tb_t1 141 rfl rfl
theorem kw_143 : (Jvm.Cond.instanceMethod ({ cls := "HalfMast$Course", name := "<init>", desc := "()V" } : Jvm.MethodName)) ∈ TB := tb_t1 143 rfl rfl
theorem kw_144 : (Jvm.Cond.code ({ cls := "HalfMast$Course", name := "<init>", desc := "()V" } : Jvm.MethodName) prog_3_method_1_code (1 : Nat) (Option.none : Option Jvm.ClassFile.FieldType)) ∈ TB := tb_t1 144 rfl rfl
theorem kw_145 : (Jvm.Cond.methodLink "HalfMast$Course" (3 : Nat) ({ cls := "java/lang/Object", name := "<init>", desc := "()V" } : Jvm.MethodName)) ∈ TB := tb_t1 145 rfl rfl
theorem kw_146 : (Jvm.Cond.classLink "HalfMast$Course" (9 : Nat) "HalfMast$State") ∈ TB := tb_t1 146 rfl rfl
theorem kw_148 : (Jvm.Cond.fieldLink "HalfMast$Course" (12 : Nat) "HalfMast$Course" "state" "LHalfMast$State;") ∈ TB := tb_t1 148 rfl rfl
theorem kw_151 : (Jvm.Cond.fieldLink "HalfMast$Course" (18 : Nat) "HalfMast$Course" "next" "[I") ∈ TB := tb_t1 151 rfl rfl
theorem kw_152 : (Jvm.Cond.fieldLink "HalfMast$Course" (35 : Nat) "HalfMast$Course" "town" "LHalfMast$Town;") ∈ TB := tb_t1 152 rfl rfl
theorem kw_153 : (Jvm.Cond.fieldLink "HalfMast$Course" (39 : Nat) "HalfMast$Course" "weighs" "I") ∈ TB := tb_t1 153 rfl rfl
theorem kw_154 : (Jvm.Cond.fieldLink "HalfMast$Course" (40 : Nat) "HalfMast$Course" "rounds" "I") ∈ TB := tb_t1 154 rfl rfl
theorem kw_155 : (Jvm.Cond.fieldLink "HalfMast$Course" (56 : Nat) "HalfMast$Course" "flag" "I") ∈ TB := tb_t1 155 rfl rfl
theorem kw_157 : (Jvm.Cond.laysFinal "HalfMast$Course" "HalfMast$Course" "state" "LHalfMast$State;") ∈ TB := tb_t1 157 rfl rfl
theorem kw_158 : (Jvm.Cond.soleField "HalfMast$Course" "state") ∈ TB := tb_t1 158 rfl rfl
theorem kw_159 : (Jvm.Cond.laysFinal "HalfMast$Course" "HalfMast$Course" "next" "[I") ∈ TB := tb_t1 159 rfl rfl
theorem kw_160 : (Jvm.Cond.soleField "HalfMast$Course" "next") ∈ TB := tb_t1 160 rfl rfl
theorem kw_161 : (Jvm.Cond.lays "HalfMast$Course" "HalfMast$Course" "town" "LHalfMast$Town;") ∈ TB := tb_t1 161 rfl rfl
theorem kw_162 : (Jvm.Cond.soleField "HalfMast$Course" "town") ∈ TB := tb_t1 162 rfl rfl
theorem kw_163 : (Jvm.Cond.lays "HalfMast$Course" "HalfMast$Course" "weighs" "I") ∈ TB := tb_t1 163 rfl rfl
theorem kw_164 : (Jvm.Cond.soleField "HalfMast$Course" "weighs") ∈ TB := tb_t1 164 rfl rfl
theorem kw_165 : (Jvm.Cond.lays "HalfMast$Course" "HalfMast$Course" "rounds" "I") ∈ TB := tb_t1 165 rfl rfl
theorem kw_166 : (Jvm.Cond.soleField "HalfMast$Course" "rounds") ∈ TB := tb_t1 166 rfl rfl
theorem kw_167 : (Jvm.Cond.lays "HalfMast$Course" "HalfMast$Course" "flag" "I") ∈ TB := tb_t1 167 rfl rfl
theorem kw_168 : (Jvm.Cond.soleField "HalfMast$Course" "flag") ∈ TB := tb_t1 168 rfl rfl
theorem kw_169 : (Jvm.Cond.superclass "HalfMast$Course" "java/lang/Object") ∈ TB := tb_t1 169 rfl rfl
theorem kw_170 : (Jvm.Cond.classLink "HalfMast" (53 : Nat) "HalfMast$Town") ∈ TB := tb_t1 170 rfl rfl
theorem kw_171 : (Jvm.Cond.instantiable "HalfMast$Town" (9 : Nat)) ∈ TB := tb_t1 171 rfl rfl
theorem kw_173 : (Jvm.Cond.instanceMethod ({ cls := "HalfMast$Town", name := "<init>", desc := "()V" } : Jvm.MethodName)) ∈ TB := tb_t1 173 rfl rfl
theorem kw_174 : (Jvm.Cond.code ({ cls := "HalfMast$Town", name := "<init>", desc := "()V" } : Jvm.MethodName) prog_10_method_1_code (1 : Nat) (Option.none : Option Jvm.ClassFile.FieldType)) ∈ TB := tb_t1 174 rfl rfl
theorem kw_175 : (Jvm.Cond.methodLink "HalfMast$Town" (3 : Nat) ({ cls := "java/lang/Object", name := "<init>", desc := "()V" } : Jvm.MethodName)) ∈ TB := tb_t1 175 rfl rfl
theorem kw_176 : (Jvm.Cond.classLink "HalfMast$Town" (19 : Nat) "HalfMast$State") ∈ TB := tb_t1 176 rfl rfl
theorem kw_178 : (Jvm.Cond.classLink "HalfMast$Town" (26 : Nat) "HalfMast$Law") ∈ TB := tb_t1 178 rfl rfl
theorem kw_179 : (Jvm.Cond.instantiable "HalfMast$Law" (3 : Nat)) ∈ TB := tb_t1 179 rfl rfl
theorem kw_181 : (Jvm.Cond.instanceMethod ({ cls := "HalfMast$Law", name := "<init>", desc := "()V" } : Jvm.MethodName)) ∈ TB := tb_t1 181 rfl rfl
theorem kw_182 : (Jvm.Cond.code ({ cls := "HalfMast$Law", name := "<init>", desc := "()V" } : Jvm.MethodName) prog_5_method_1_code (1 : Nat) (Option.none : Option Jvm.ClassFile.FieldType)) ∈ TB := tb_t1 182 rfl rfl
theorem kw_183 : (Jvm.Cond.methodLink "HalfMast$Law" (5 : Nat) ({ cls := "java/lang/Object", name := "<init>", desc := "()V" } : Jvm.MethodName)) ∈ TB := tb_t1 183 rfl rfl
theorem kw_184 : (Jvm.Cond.fieldLink "HalfMast$Law" (11 : Nat) "HalfMast$Law" "steps" "[I") ∈ TB := tb_t1 184 rfl rfl
theorem kw_185 : (Jvm.Cond.fieldLink "HalfMast$Law" (15 : Nat) "HalfMast$Law" "stack" "[I") ∈ TB := tb_t1 185 rfl rfl
theorem kw_186 : (Jvm.Cond.fieldLink "HalfMast$Law" (25 : Nat) "HalfMast$Law" "size" "I") ∈ TB := tb_t1 186 rfl rfl
theorem kw_187 : (Jvm.Cond.laysFinal "HalfMast$Law" "HalfMast$Law" "steps" "[I") ∈ TB := tb_t1 187 rfl rfl
theorem kw_188 : (Jvm.Cond.soleField "HalfMast$Law" "steps") ∈ TB := tb_t1 188 rfl rfl
theorem kw_189 : (Jvm.Cond.laysFinal "HalfMast$Law" "HalfMast$Law" "stack" "[I") ∈ TB := tb_t1 189 rfl rfl
theorem kw_190 : (Jvm.Cond.soleField "HalfMast$Law" "stack") ∈ TB := tb_t1 190 rfl rfl
theorem kw_191 : (Jvm.Cond.lays "HalfMast$Law" "HalfMast$Law" "size" "I") ∈ TB := tb_t1 191 rfl rfl
theorem kw_192 : (Jvm.Cond.soleField "HalfMast$Law" "size") ∈ TB := tb_t1 192 rfl rfl
theorem kw_193 : (Jvm.Cond.superclass "HalfMast$Law" "java/lang/Object") ∈ TB := tb_t1 193 rfl rfl
theorem kw_194 : (Jvm.Cond.arrayClass Jvm.ClassFile.FieldType.long) ∈ TB := tb_t1 194 rfl rfl
theorem kw_195 : (Jvm.Cond.fieldLink "HalfMast$Town" (9 : Nat) "HalfMast$Town" "names" "[J") ∈ TB := tb_t1 195 rfl rfl
theorem kw_196 : (Jvm.Cond.fieldLink "HalfMast$Town" (15 : Nat) "HalfMast$Town" "kinds" "[I") ∈ TB := tb_t1 196 rfl rfl
theorem kw_198 : (Jvm.Cond.fieldLink "HalfMast$Town" (22 : Nat) "HalfMast$Town" "begin" "LHalfMast$State;") ∈ TB := tb_t1 198 rfl rfl
theorem kw_200 : (Jvm.Cond.fieldLink "HalfMast$Town" (29 : Nat) "HalfMast$Town" "law" "LHalfMast$Law;") ∈ TB := tb_t1 200 rfl rfl
theorem kw_202 : (Jvm.Cond.fieldLink "HalfMast$Town" (39 : Nat) "HalfMast$Town" "persons" "I") ∈ TB := tb_t1 202 rfl rfl
theorem kw_205 : (Jvm.Cond.fieldLink "HalfMast$Town" (43 : Nat) "HalfMast$Town" "mast" "I") ∈ TB := tb_t1 205 rfl rfl
theorem kw_208 : (Jvm.Cond.fieldLink "HalfMast$Town" (46 : Nat) "HalfMast$Town" "weighs" "I") ∈ TB := tb_t1 208 rfl rfl
theorem kw_211 : (Jvm.Cond.fieldLink "HalfMast$Town" (49 : Nat) "HalfMast$Town" "rounds" "I") ∈ TB := tb_t1 211 rfl rfl
theorem kw_213 : (Jvm.Cond.fieldLink "HalfMast$Town" (52 : Nat) "HalfMast$Town" "toldOnce" "I") ∈ TB := tb_t1 213 rfl rfl
theorem kw_214 : (Jvm.Cond.laysFinal "HalfMast$Town" "HalfMast$Town" "names" "[J") ∈ TB := tb_t1 214 rfl rfl
theorem kw_215 : (Jvm.Cond.soleField "HalfMast$Town" "names") ∈ TB := tb_t1 215 rfl rfl
theorem kw_216 : (Jvm.Cond.laysFinal "HalfMast$Town" "HalfMast$Town" "kinds" "[I") ∈ TB := tb_t1 216 rfl rfl
theorem kw_217 : (Jvm.Cond.soleField "HalfMast$Town" "kinds") ∈ TB := tb_t1 217 rfl rfl
theorem kw_218 : (Jvm.Cond.laysFinal "HalfMast$Town" "HalfMast$Town" "begin" "LHalfMast$State;") ∈ TB := tb_t1 218 rfl rfl
theorem kw_219 : (Jvm.Cond.soleField "HalfMast$Town" "begin") ∈ TB := tb_t1 219 rfl rfl
theorem kw_220 : (Jvm.Cond.laysFinal "HalfMast$Town" "HalfMast$Town" "law" "LHalfMast$Law;") ∈ TB := tb_t1 220 rfl rfl
theorem kw_221 : (Jvm.Cond.soleField "HalfMast$Town" "law") ∈ TB := tb_t1 221 rfl rfl
theorem kw_222 : (Jvm.Cond.lays "HalfMast$Town" "HalfMast$Town" "persons" "I") ∈ TB := tb_t1 222 rfl rfl
theorem kw_223 : (Jvm.Cond.soleField "HalfMast$Town" "persons") ∈ TB := tb_t1 223 rfl rfl
theorem kw_224 : (Jvm.Cond.lays "HalfMast$Town" "HalfMast$Town" "mast" "I") ∈ TB := tb_t1 224 rfl rfl
theorem kw_225 : (Jvm.Cond.soleField "HalfMast$Town" "mast") ∈ TB := tb_t1 225 rfl rfl
theorem kw_226 : (Jvm.Cond.lays "HalfMast$Town" "HalfMast$Town" "weighs" "I") ∈ TB := tb_t1 226 rfl rfl
theorem kw_227 : (Jvm.Cond.soleField "HalfMast$Town" "weighs") ∈ TB := tb_t1 227 rfl rfl
theorem kw_228 : (Jvm.Cond.lays "HalfMast$Town" "HalfMast$Town" "rounds" "I") ∈ TB := tb_t1 228 rfl rfl
theorem kw_229 : (Jvm.Cond.soleField "HalfMast$Town" "rounds") ∈ TB := tb_t1 229 rfl rfl
theorem kw_230 : (Jvm.Cond.lays "HalfMast$Town" "HalfMast$Town" "toldOnce" "I") ∈ TB := tb_t1 230 rfl rfl
theorem kw_231 : (Jvm.Cond.soleField "HalfMast$Town" "toldOnce") ∈ TB := tb_t1 231 rfl rfl
theorem kw_232 : (Jvm.Cond.superclass "HalfMast$Town" "java/lang/Object") ∈ TB := tb_t1 232 rfl rfl
theorem kw_233 : (Jvm.Cond.classLink "HalfMast" (63 : Nat) "HalfMast$Year") ∈ TB := tb_t1 233 rfl rfl
theorem kw_234 : (Jvm.Cond.instantiable "HalfMast$Year" (4 : Nat)) ∈ TB := tb_t1 234 rfl rfl
theorem kw_236 : (Jvm.Cond.instanceMethod ({ cls := "HalfMast$Year", name := "<init>", desc := "()V" } : Jvm.MethodName)) ∈ TB := tb_t1 236 rfl rfl
theorem kw_237 : (Jvm.Cond.code ({ cls := "HalfMast$Year", name := "<init>", desc := "()V" } : Jvm.MethodName) prog_12_method_1_code (1 : Nat) (Option.none : Option Jvm.ClassFile.FieldType)) ∈ TB := tb_t1 237 rfl rfl
theorem kw_238 : (Jvm.Cond.methodLink "HalfMast$Year" (3 : Nat) ({ cls := "java/lang/Object", name := "<init>", desc := "()V" } : Jvm.MethodName)) ∈ TB := tb_t1 238 rfl rfl
theorem kw_239 : (Jvm.Cond.fieldLink "HalfMast$Year" (9 : Nat) "HalfMast$Year" "deeds" "[I") ∈ TB := tb_t1 239 rfl rfl
theorem kw_240 : (Jvm.Cond.fieldLink "HalfMast$Year" (15 : Nat) "HalfMast$Year" "persons" "[I") ∈ TB := tb_t2 0 rfl rfl
theorem kw_241 : (Jvm.Cond.fieldLink "HalfMast$Year" (18 : Nat) "HalfMast$Year" "seconds" "[I") ∈ TB := tb_t2 1 rfl rfl
theorem kw_242 : (Jvm.Cond.fieldLink "HalfMast$Year" (21 : Nat) "HalfMast$Year" "lines" "I") ∈ TB := tb_t2 2 rfl rfl
theorem kw_244 : (Jvm.Cond.laysFinal "HalfMast$Year" "HalfMast$Year" "deeds" "[I") ∈ TB := tb_t2 4 rfl rfl
theorem kw_245 : (Jvm.Cond.soleField "HalfMast$Year" "deeds") ∈ TB := tb_t2 5 rfl rfl
theorem kw_246 : (Jvm.Cond.laysFinal "HalfMast$Year" "HalfMast$Year" "persons" "[I") ∈ TB := tb_t2 6 rfl rfl
theorem kw_247 : (Jvm.Cond.soleField "HalfMast$Year" "persons") ∈ TB := tb_t2 7 rfl rfl
theorem kw_248 : (Jvm.Cond.laysFinal "HalfMast$Year" "HalfMast$Year" "seconds" "[I") ∈ TB := tb_t2 8 rfl rfl
theorem kw_249 : (Jvm.Cond.soleField "HalfMast$Year" "seconds") ∈ TB := tb_t2 9 rfl rfl
theorem kw_250 : (Jvm.Cond.lays "HalfMast$Year" "HalfMast$Year" "lines" "I") ∈ TB := tb_t2 10 rfl rfl
theorem kw_251 : (Jvm.Cond.soleField "HalfMast$Year" "lines") ∈ TB := tb_t2 11 rfl rfl
theorem kw_252 : (Jvm.Cond.superclass "HalfMast$Year" "java/lang/Object") ∈ TB := tb_t2 12 rfl rfl
theorem kw_253 : (Jvm.Cond.instantiable "HalfMast$Mark" (4 : Nat)) ∈ TB := tb_t2 13 rfl rfl
theorem kw_255 : (Jvm.Cond.instanceMethod ({ cls := "HalfMast$Mark", name := "<init>", desc := "()V" } : Jvm.MethodName)) ∈ TB := tb_t2 15 rfl rfl
theorem kw_256 : (Jvm.Cond.code ({ cls := "HalfMast$Mark", name := "<init>", desc := "()V" } : Jvm.MethodName) prog_6_method_1_code (1 : Nat) (Option.none : Option Jvm.ClassFile.FieldType)) ∈ TB := tb_t2 16 rfl rfl
theorem kw_257 : (Jvm.Cond.methodLink "HalfMast$Mark" (1 : Nat) ({ cls := "java/lang/Object", name := "<init>", desc := "()V" } : Jvm.MethodName)) ∈ TB := tb_t2 17 rfl rfl
theorem kw_258 : (Jvm.Cond.classLink "HalfMast$Mark" (7 : Nat) "HalfMast$State") ∈ TB := tb_t2 18 rfl rfl
theorem kw_260 : (Jvm.Cond.classLink "HalfMast$Mark" (16 : Nat) "HalfMast$Notes") ∈ TB := tb_t2 20 rfl rfl
theorem kw_262 : (Jvm.Cond.fieldLink "HalfMast$Mark" (10 : Nat) "HalfMast$Mark" "state" "LHalfMast$State;") ∈ TB := tb_t2 22 rfl rfl
theorem kw_264 : (Jvm.Cond.fieldLink "HalfMast$Mark" (19 : Nat) "HalfMast$Mark" "seen" "LHalfMast$Notes;") ∈ TB := tb_t2 24 rfl rfl
theorem kw_266 : (Jvm.Cond.fieldLink "HalfMast$Mark" (23 : Nat) "HalfMast$Mark" "measured" "LHalfMast$Notes;") ∈ TB := tb_t2 26 rfl rfl
theorem kw_269 : (Jvm.Cond.laysFinal "HalfMast$Mark" "HalfMast$Mark" "state" "LHalfMast$State;") ∈ TB := tb_t2 29 rfl rfl
theorem kw_270 : (Jvm.Cond.soleField "HalfMast$Mark" "state") ∈ TB := tb_t2 30 rfl rfl
theorem kw_271 : (Jvm.Cond.laysFinal "HalfMast$Mark" "HalfMast$Mark" "seen" "LHalfMast$Notes;") ∈ TB := tb_t2 31 rfl rfl
theorem kw_272 : (Jvm.Cond.soleField "HalfMast$Mark" "seen") ∈ TB := tb_t2 32 rfl rfl
theorem kw_273 : (Jvm.Cond.laysFinal "HalfMast$Mark" "HalfMast$Mark" "measured" "LHalfMast$Notes;") ∈ TB := tb_t2 33 rfl rfl
theorem kw_274 : (Jvm.Cond.soleField "HalfMast$Mark" "measured") ∈ TB := tb_t2 34 rfl rfl
theorem kw_275 : (Jvm.Cond.lays "HalfMast$Mark" "HalfMast$Mark" "laid" "Z") ∈ TB := tb_t2 35 rfl rfl
theorem kw_276 : (Jvm.Cond.soleField "HalfMast$Mark" "laid") ∈ TB := tb_t2 36 rfl rfl
theorem kw_277 : (Jvm.Cond.superclass "HalfMast$Mark" "java/lang/Object") ∈ TB := tb_t2 37 rfl rfl
theorem kw_280 : (Jvm.Cond.instanceMethod ({ cls := "HalfMast$Town", name := "clear", desc := "()V" } : Jvm.MethodName)) ∈ TB := tb_t2 40 rfl rfl
theorem kw_281 : (Jvm.Cond.code ({ cls := "HalfMast$Town", name := "clear", desc := "()V" } : Jvm.MethodName) prog_10_method_2_code (1 : Nat) (Option.none : Option Jvm.ClassFile.FieldType)) ∈ TB := tb_t2 41 rfl rfl
theorem kw_284 : (Jvm.Cond.instanceMethod ({ cls := "HalfMast$State", name := "clear", desc := "()V" } : Jvm.MethodName)) ∈ TB := tb_t2 44 rfl rfl
theorem kw_285 : (Jvm.Cond.code ({ cls := "HalfMast$State", name := "clear", desc := "()V" } : Jvm.MethodName) prog_8_method_2_code (1 : Nat) (Option.none : Option Jvm.ClassFile.FieldType)) ∈ TB := tb_t2 45 rfl rfl
theorem kw_286 : (Jvm.Cond.methodLink "HalfMast$State" (18 : Nat) ({ cls := "java/util/Arrays", name := "fill", desc := "([II)V" } : Jvm.MethodName)) ∈ TB := tb_t2 46 rfl rfl
theorem kw_287 : (Jvm.Cond.static ({ cls := "java/util/Arrays", name := "fill", desc := "([II)V" } : Jvm.MethodName)) ∈ TB := tb_t2 47 rfl rfl
theorem kw_288 : (Jvm.Cond.code ({ cls := "java/util/Arrays", name := "fill", desc := "([II)V" } : Jvm.MethodName) prog_31_method_103_code (4 : Nat) (Option.none : Option Jvm.ClassFile.FieldType)) ∈ TB := tb_t2 48 rfl rfl
theorem kw_291 : (Jvm.Cond.instanceMethod ({ cls := "HalfMast$Law", name := "useOldLaw", desc := "()V" } : Jvm.MethodName)) ∈ TB := tb_t2 51 rfl rfl
theorem kw_292 : (Jvm.Cond.code ({ cls := "HalfMast$Law", name := "useOldLaw", desc := "()V" } : Jvm.MethodName) prog_5_method_2_code (1 : Nat) (Option.none : Option Jvm.ClassFile.FieldType)) ∈ TB := tb_t2 52 rfl rfl
theorem kw_293 : (Jvm.Cond.methodLink "HalfMast$Law" (18 : Nat) ({ cls := "HalfMast$Law", name := "forget", desc := "()V" } : Jvm.MethodName)) ∈ TB := tb_t2 53 rfl rfl
theorem kw_295 : (Jvm.Cond.instanceMethod ({ cls := "HalfMast$Law", name := "forget", desc := "()V" } : Jvm.MethodName)) ∈ TB := tb_t2 55 rfl rfl
theorem kw_296 : (Jvm.Cond.code ({ cls := "HalfMast$Law", name := "forget", desc := "()V" } : Jvm.MethodName) prog_5_method_4_code (1 : Nat) (Option.none : Option Jvm.ClassFile.FieldType)) ∈ TB := tb_t2 56 rfl rfl
theorem kw_297 : (Jvm.Cond.methodLink "HalfMast$Law" (21 : Nat) ({ cls := "HalfMast$Law", name := "add", desc := "(I)V" } : Jvm.MethodName)) ∈ TB := tb_t2 57 rfl rfl
theorem kw_299 : (Jvm.Cond.instanceMethod ({ cls := "HalfMast$Law", name := "add", desc := "(I)V" } : Jvm.MethodName)) ∈ TB := tb_t2 59 rfl rfl
theorem kw_300 : (Jvm.Cond.code ({ cls := "HalfMast$Law", name := "add", desc := "(I)V" } : Jvm.MethodName) prog_5_method_3_code (2 : Nat) (Option.none : Option Jvm.ClassFile.FieldType)) ∈ TB := tb_t2 60 rfl rfl
theorem kw_302 : (Jvm.Cond.static ({ cls := "HalfMast", name := "put", desc := "([III)V" } : Jvm.MethodName)) ∈ TB := tb_t2 62 rfl rfl
theorem kw_303 : (Jvm.Cond.code ({ cls := "HalfMast", name := "put", desc := "([III)V" } : Jvm.MethodName) prog_1_method_75_code (3 : Nat) (Option.none : Option Jvm.ClassFile.FieldType)) ∈ TB := tb_t2 63 rfl rfl
theorem kw_306 : (Jvm.Cond.instanceMethod ({ cls := "HalfMast$Course", name := "start", desc := "(LHalfMast$Town;LHalfMast$State;)V" } : Jvm.MethodName)) ∈ TB := tb_t2 66 rfl rfl
theorem kw_307 : (Jvm.Cond.code ({ cls := "HalfMast$Course", name := "start", desc := "(LHalfMast$Town;LHalfMast$State;)V" } : Jvm.MethodName) prog_3_method_2_code (3 : Nat) (Option.none : Option Jvm.ClassFile.FieldType)) ∈ TB := tb_t2 67 rfl rfl
theorem kw_308 : (Jvm.Cond.methodLink "HalfMast$Course" (31 : Nat) ({ cls := "HalfMast$Course", name := "startBy", desc := "(LHalfMast$Town;LHalfMast$State;II)V" } : Jvm.MethodName)) ∈ TB := tb_t2 68 rfl rfl
theorem kw_310 : (Jvm.Cond.instanceMethod ({ cls := "HalfMast$Course", name := "startBy", desc := "(LHalfMast$Town;LHalfMast$State;II)V" } : Jvm.MethodName)) ∈ TB := tb_t2 70 rfl rfl
theorem kw_311 : (Jvm.Cond.code ({ cls := "HalfMast$Course", name := "startBy", desc := "(LHalfMast$Town;LHalfMast$State;II)V" } : Jvm.MethodName) prog_3_method_3_code (5 : Nat) (Option.none : Option Jvm.ClassFile.FieldType)) ∈ TB := tb_t2 71 rfl rfl
theorem kw_314 : (Jvm.Cond.instanceMethod ({ cls := "HalfMast$State", name := "copy", desc := "(LHalfMast$State;)V" } : Jvm.MethodName)) ∈ TB := tb_t2 74 rfl rfl
theorem kw_315 : (Jvm.Cond.code ({ cls := "HalfMast$State", name := "copy", desc := "(LHalfMast$State;)V" } : Jvm.MethodName) prog_8_method_3_code (2 : Nat) (Option.none : Option Jvm.ClassFile.FieldType)) ∈ TB := tb_t2 75 rfl rfl
theorem kw_316 : (Jvm.Cond.methodLink "HalfMast$State" (28 : Nat) ({ cls := "java/lang/System", name := "arraycopy", desc := "(Ljava/lang/Object;ILjava/lang/Object;II)V" } : Jvm.MethodName)) ∈ TB := tb_t2 76 rfl rfl
theorem kw_317 : (Jvm.Cond.static ({ cls := "java/lang/System", name := "arraycopy", desc := "(Ljava/lang/Object;ILjava/lang/Object;II)V" } : Jvm.MethodName)) ∈ TB := tb_t2 77 rfl rfl
theorem kw_318 : (Jvm.Cond.native ({ cls := "java/lang/System", name := "arraycopy", desc := "(Ljava/lang/Object;ILjava/lang/Object;II)V" } : Jvm.MethodName)) ∈ TB := tb_t2 78 rfl rfl
theorem kw_319 : (Jvm.Cond.methodLink "HalfMast$Course" (45 : Nat) ({ cls := "HalfMast$Course", name := "setFlag", desc := "()V" } : Jvm.MethodName)) ∈ TB := tb_t2 79 rfl rfl
theorem kw_321 : (Jvm.Cond.instanceMethod ({ cls := "HalfMast$Course", name := "setFlag", desc := "()V" } : Jvm.MethodName)) ∈ TB := tb_t2 81 rfl rfl
theorem kw_322 : (Jvm.Cond.code ({ cls := "HalfMast$Course", name := "setFlag", desc := "()V" } : Jvm.MethodName) prog_3_method_4_code (1 : Nat) (Option.none : Option Jvm.ClassFile.FieldType)) ∈ TB := tb_t2 82 rfl rfl
theorem kw_325 : (Jvm.Cond.instanceMethod ({ cls := "HalfMast$Town", name := "weightOfAll", desc := "(LHalfMast$State;)I" } : Jvm.MethodName)) ∈ TB := tb_t2 85 rfl rfl
theorem kw_326 : (Jvm.Cond.code ({ cls := "HalfMast$Town", name := "weightOfAll", desc := "(LHalfMast$State;)I" } : Jvm.MethodName) prog_10_method_19_code (4 : Nat) (Option.some Jvm.ClassFile.FieldType.int)) ∈ TB := tb_t2 86 rfl rfl
theorem kw_328 : (Jvm.Cond.static ({ cls := "HalfMast", name := "at", desc := "([II)I" } : Jvm.MethodName)) ∈ TB := tb_t2 88 rfl rfl
theorem kw_329 : (Jvm.Cond.code ({ cls := "HalfMast", name := "at", desc := "([II)I" } : Jvm.MethodName) prog_1_method_74_code (2 : Nat) (Option.some Jvm.ClassFile.FieldType.int)) ∈ TB := tb_t2 89 rfl rfl
theorem kw_330 : (Jvm.Cond.methodLink "HalfMast$Town" (180 : Nat) ({ cls := "HalfMast$Town", name := "weight", desc := "(II)I" } : Jvm.MethodName)) ∈ TB := tb_t2 90 rfl rfl
theorem kw_332 : (Jvm.Cond.instanceMethod ({ cls := "HalfMast$Town", name := "weight", desc := "(II)I" } : Jvm.MethodName)) ∈ TB := tb_t2 92 rfl rfl
theorem kw_333 : (Jvm.Cond.code ({ cls := "HalfMast$Town", name := "weight", desc := "(II)I" } : Jvm.MethodName) prog_10_method_18_code (3 : Nat) (Option.some Jvm.ClassFile.FieldType.int)) ∈ TB := tb_t2 93 rfl rfl
theorem kw_336 : (Jvm.Cond.instanceMethod ({ cls := "HalfMast$Town", name := "flagUnder", desc := "(III)I" } : Jvm.MethodName)) ∈ TB := tb_t2 96 rfl rfl
theorem kw_337 : (Jvm.Cond.code ({ cls := "HalfMast$Town", name := "flagUnder", desc := "(III)I" } : Jvm.MethodName) prog_10_method_21_code (4 : Nat) (Option.some Jvm.ClassFile.FieldType.int)) ∈ TB := tb_t2 97 rfl rfl
theorem kw_338 : (Jvm.Cond.methodLink "HalfMast$Town" (187 : Nat) ({ cls := "HalfMast$Town", name := "inches", desc := "(III)I" } : Jvm.MethodName)) ∈ TB := tb_t2 98 rfl rfl
theorem kw_339 : (Jvm.Cond.static ({ cls := "HalfMast$Town", name := "inches", desc := "(III)I" } : Jvm.MethodName)) ∈ TB := tb_t2 99 rfl rfl
theorem kw_340 : (Jvm.Cond.code ({ cls := "HalfMast$Town", name := "inches", desc := "(III)I" } : Jvm.MethodName) prog_10_method_22_code (3 : Nat) (Option.some Jvm.ClassFile.FieldType.int)) ∈ TB := tb_t2 100 rfl rfl
theorem kw_341 : (Jvm.Cond.methodLink "HalfMast$Town" (190 : Nat) ({ cls := "java/lang/Math", name := "max", desc := "(II)I" } : Jvm.MethodName)) ∈ TB := tb_t2 101 rfl rfl
theorem kw_342 : (Jvm.Cond.static ({ cls := "java/lang/Math", name := "max", desc := "(II)I" } : Jvm.MethodName)) ∈ TB := tb_t2 102 rfl rfl
theorem kw_343 : (Jvm.Cond.code ({ cls := "java/lang/Math", name := "max", desc := "(II)I" } : Jvm.MethodName) prog_22_method_65_code (2 : Nat) (Option.some Jvm.ClassFile.FieldType.int)) ∈ TB := tb_t2 103 rfl rfl
theorem kw_344 : (Jvm.Cond.fieldLink "HalfMast" (12 : Nat) "HalfMast" "tape" "LHalfMast$Tape;") ∈ TB := tb_t2 104 rfl rfl
theorem kw_345 : (Jvm.Cond.fieldLink "HalfMast" (19 : Nat) "HalfMast" "history" "LHalfMast$History;") ∈ TB := tb_t2 105 rfl rfl
theorem kw_346 : (Jvm.Cond.fieldLink "HalfMast" (26 : Nat) "HalfMast" "seen" "LHalfMast$Notes;") ∈ TB := tb_t2 106 rfl rfl
theorem kw_347 : (Jvm.Cond.fieldLink "HalfMast" (30 : Nat) "HalfMast" "measured" "LHalfMast$Notes;") ∈ TB := tb_t2 107 rfl rfl
theorem kw_348 : (Jvm.Cond.fieldLink "HalfMast" (35 : Nat) "HalfMast" "marks" "[LHalfMast$Mark;") ∈ TB := tb_t2 108 rfl rfl
theorem kw_349 : (Jvm.Cond.fieldLink "HalfMast" (39 : Nat) "HalfMast" "standing" "[I") ∈ TB := tb_t2 109 rfl rfl
theorem kw_350 : (Jvm.Cond.fieldLink "HalfMast" (46 : Nat) "HalfMast" "now" "LHalfMast$Course;") ∈ TB := tb_t2 110 rfl rfl
theorem kw_351 : (Jvm.Cond.fieldLink "HalfMast" (50 : Nat) "HalfMast" "ahead" "LHalfMast$Course;") ∈ TB := tb_t2 111 rfl rfl
theorem kw_352 : (Jvm.Cond.fieldLink "HalfMast" (56 : Nat) "HalfMast" "here" "LHalfMast$Town;") ∈ TB := tb_t2 112 rfl rfl
theorem kw_353 : (Jvm.Cond.fieldLink "HalfMast" (60 : Nat) "HalfMast" "townDraft" "LHalfMast$Town;") ∈ TB := tb_t2 113 rfl rfl
theorem kw_354 : (Jvm.Cond.fieldLink "HalfMast" (66 : Nat) "HalfMast" "told" "LHalfMast$Year;") ∈ TB := tb_t2 114 rfl rfl
theorem kw_355 : (Jvm.Cond.fieldLink "HalfMast" (70 : Nat) "HalfMast" "yearDraft" "LHalfMast$Year;") ∈ TB := tb_t2 115 rfl rfl
theorem kw_356 : (Jvm.Cond.fieldLink "HalfMast" (306 : Nat) "HalfMast" "drawn" "J") ∈ TB := tb_t2 116 rfl rfl
theorem kw_357 : (Jvm.Cond.laysFinal "HalfMast" "HalfMast" "tape" "LHalfMast$Tape;") ∈ TB := tb_t2 117 rfl rfl
theorem kw_358 : (Jvm.Cond.soleField "HalfMast" "tape") ∈ TB := tb_t2 118 rfl rfl
theorem kw_359 : (Jvm.Cond.laysFinal "HalfMast" "HalfMast" "history" "LHalfMast$History;") ∈ TB := tb_t2 119 rfl rfl
theorem kw_360 : (Jvm.Cond.soleField "HalfMast" "history") ∈ TB := tb_t2 120 rfl rfl
theorem kw_361 : (Jvm.Cond.laysFinal "HalfMast" "HalfMast" "seen" "LHalfMast$Notes;") ∈ TB := tb_t2 121 rfl rfl
theorem kw_362 : (Jvm.Cond.soleField "HalfMast" "seen") ∈ TB := tb_t2 122 rfl rfl
theorem kw_363 : (Jvm.Cond.laysFinal "HalfMast" "HalfMast" "measured" "LHalfMast$Notes;") ∈ TB := tb_t2 123 rfl rfl
theorem kw_364 : (Jvm.Cond.soleField "HalfMast" "measured") ∈ TB := tb_t2 124 rfl rfl
theorem kw_365 : (Jvm.Cond.laysFinal "HalfMast" "HalfMast" "marks" "[LHalfMast$Mark;") ∈ TB := tb_t2 125 rfl rfl
theorem kw_366 : (Jvm.Cond.soleField "HalfMast" "marks") ∈ TB := tb_t2 126 rfl rfl
theorem kw_367 : (Jvm.Cond.laysFinal "HalfMast" "HalfMast" "standing" "[I") ∈ TB := tb_t2 127 rfl rfl
theorem kw_368 : (Jvm.Cond.soleField "HalfMast" "standing") ∈ TB := tb_t2 128 rfl rfl
theorem kw_369 : (Jvm.Cond.laysFinal "HalfMast" "HalfMast" "now" "LHalfMast$Course;") ∈ TB := tb_t2 129 rfl rfl
theorem kw_370 : (Jvm.Cond.soleField "HalfMast" "now") ∈ TB := tb_t2 130 rfl rfl
theorem kw_371 : (Jvm.Cond.laysFinal "HalfMast" "HalfMast" "ahead" "LHalfMast$Course;") ∈ TB := tb_t2 131 rfl rfl
theorem kw_372 : (Jvm.Cond.soleField "HalfMast" "ahead") ∈ TB := tb_t2 132 rfl rfl
theorem kw_373 : (Jvm.Cond.lays "HalfMast" "HalfMast" "here" "LHalfMast$Town;") ∈ TB := tb_t2 133 rfl rfl
theorem kw_374 : (Jvm.Cond.soleField "HalfMast" "here") ∈ TB := tb_t2 134 rfl rfl
theorem kw_375 : (Jvm.Cond.lays "HalfMast" "HalfMast" "townDraft" "LHalfMast$Town;") ∈ TB := tb_t2 135 rfl rfl
theorem kw_376 : (Jvm.Cond.soleField "HalfMast" "townDraft") ∈ TB := tb_t2 136 rfl rfl
theorem kw_377 : (Jvm.Cond.lays "HalfMast" "HalfMast" "told" "LHalfMast$Year;") ∈ TB := tb_t2 137 rfl rfl
theorem kw_378 : (Jvm.Cond.soleField "HalfMast" "told") ∈ TB := tb_t2 138 rfl rfl
theorem kw_379 : (Jvm.Cond.lays "HalfMast" "HalfMast" "yearDraft" "LHalfMast$Year;") ∈ TB := tb_t2 139 rfl rfl
theorem kw_380 : (Jvm.Cond.soleField "HalfMast" "yearDraft") ∈ TB := tb_t2 140 rfl rfl
theorem kw_381 : (Jvm.Cond.lays "HalfMast" "HalfMast" "drawn" "J") ∈ TB := tb_t2 141 rfl rfl
theorem kw_382 : (Jvm.Cond.soleField "HalfMast" "drawn") ∈ TB := tb_t2 142 rfl rfl
theorem kw_383 : (Jvm.Cond.superclass "HalfMast" "java/lang/Object") ∈ TB := tb_t2 143 rfl rfl
theorem kw_384 : (Jvm.Cond.methodLink "HalfMastLaw" (21 : Nat) ({ cls := "HalfMast", name := "feed", desc := "(JJJ)I" } : Jvm.MethodName)) ∈ TB := tb_t2 144 rfl rfl
theorem kw_385 : (Jvm.Cond.instanceMethod ({ cls := "HalfMast", name := "feed", desc := "(JJJ)I" } : Jvm.MethodName)) ∈ TB := tb_t2 145 rfl rfl
theorem kw_386 : (Jvm.Cond.selects "HalfMast" ({ cls := "HalfMast", name := "feed", desc := "(JJJ)I" } : Jvm.MethodName) ({ cls := "HalfMast", name := "feed", desc := "(JJJ)I" } : Jvm.MethodName)) ∈ TB := tb_t2 146 rfl rfl
theorem kw_387 : (Jvm.Cond.code ({ cls := "HalfMast", name := "feed", desc := "(JJJ)I" } : Jvm.MethodName) prog_1_method_2_code (7 : Nat) (Option.some Jvm.ClassFile.FieldType.int)) ∈ TB := tb_t2 147 rfl rfl
theorem kw_390 : (Jvm.Cond.instanceMethod ({ cls := "HalfMast$Tape", name := "append", desc := "(J)V" } : Jvm.MethodName)) ∈ TB := tb_t2 150 rfl rfl
theorem kw_391 : (Jvm.Cond.code ({ cls := "HalfMast$Tape", name := "append", desc := "(J)V" } : Jvm.MethodName) prog_9_method_2_code (6 : Nat) (Option.none : Option Jvm.ClassFile.FieldType)) ∈ TB := tb_t2 151 rfl rfl
theorem kw_393 : (Jvm.Cond.static ({ cls := "HalfMast", name := "within", desc := "(III)Z" } : Jvm.MethodName)) ∈ TB := tb_t2 153 rfl rfl
theorem kw_394 : (Jvm.Cond.code ({ cls := "HalfMast", name := "within", desc := "(III)Z" } : Jvm.MethodName) prog_1_method_70_code (3 : Nat) (Option.some Jvm.ClassFile.FieldType.boolean)) ∈ TB := tb_t2 154 rfl rfl
theorem kw_395 : (Jvm.Cond.methodLink "HalfMastLaw" (26 : Nat) ({ cls := "HalfMast", name := "town", desc := "()I" } : Jvm.MethodName)) ∈ TB := tb_t2 155 rfl rfl
theorem kw_396 : (Jvm.Cond.instanceMethod ({ cls := "HalfMast", name := "town", desc := "()I" } : Jvm.MethodName)) ∈ TB := tb_t2 156 rfl rfl
theorem kw_397 : (Jvm.Cond.selects "HalfMast" ({ cls := "HalfMast", name := "town", desc := "()I" } : Jvm.MethodName) ({ cls := "HalfMast", name := "town", desc := "()I" } : Jvm.MethodName)) ∈ TB := tb_t2 157 rfl rfl
theorem kw_398 : (Jvm.Cond.code ({ cls := "HalfMast", name := "town", desc := "()I" } : Jvm.MethodName) prog_1_method_3_code (2 : Nat) (Option.some Jvm.ClassFile.FieldType.int)) ∈ TB := tb_t2 158 rfl rfl
theorem kw_401 : (Jvm.Cond.instanceMethod ({ cls := "HalfMast$Town", name := "read", desc := "(LHalfMast$Tape;)I" } : Jvm.MethodName)) ∈ TB := tb_t2 161 rfl rfl
theorem kw_402 : (Jvm.Cond.code ({ cls := "HalfMast$Town", name := "read", desc := "(LHalfMast$Tape;)I" } : Jvm.MethodName) prog_10_method_3_code (3 : Nat) (Option.some Jvm.ClassFile.FieldType.int)) ∈ TB := tb_t2 162 rfl rfl
theorem kw_403 : (Jvm.Cond.methodLink "HalfMast$Town" (55 : Nat) ({ cls := "HalfMast$Town", name := "clear", desc := "()V" } : Jvm.MethodName)) ∈ TB := tb_t2 163 rfl rfl
theorem kw_406 : (Jvm.Cond.instanceMethod ({ cls := "HalfMast$Tape", name := "rewind", desc := "()V" } : Jvm.MethodName)) ∈ TB := tb_t2 166 rfl rfl
theorem kw_407 : (Jvm.Cond.code ({ cls := "HalfMast$Tape", name := "rewind", desc := "()V" } : Jvm.MethodName) prog_9_method_3_code (1 : Nat) (Option.none : Option Jvm.ClassFile.FieldType)) ∈ TB := tb_t2 167 rfl rfl
theorem kw_408 : (Jvm.Cond.methodLink "HalfMast$Tape" (38 : Nat) ({ cls := "HalfMast$Tape", name := "advance", desc := "()V" } : Jvm.MethodName)) ∈ TB := tb_t2 168 rfl rfl
theorem kw_410 : (Jvm.Cond.instanceMethod ({ cls := "HalfMast$Tape", name := "advance", desc := "()V" } : Jvm.MethodName)) ∈ TB := tb_t2 170 rfl rfl
theorem kw_411 : (Jvm.Cond.code ({ cls := "HalfMast$Tape", name := "advance", desc := "()V" } : Jvm.MethodName) prog_9_method_6_code (2 : Nat) (Option.none : Option Jvm.ClassFile.FieldType)) ∈ TB := tb_t2 171 rfl rfl
theorem kw_412 : (Jvm.Cond.methodLink "HalfMast$Tape" (44 : Nat) ({ cls := "HalfMast$Tape", name := "signAt", desc := "(I)C" } : Jvm.MethodName)) ∈ TB := tb_t2 172 rfl rfl
theorem kw_414 : (Jvm.Cond.instanceMethod ({ cls := "HalfMast$Tape", name := "signAt", desc := "(I)C" } : Jvm.MethodName)) ∈ TB := tb_t2 174 rfl rfl
theorem kw_415 : (Jvm.Cond.code ({ cls := "HalfMast$Tape", name := "signAt", desc := "(I)C" } : Jvm.MethodName) prog_9_method_5_code (2 : Nat) (Option.some Jvm.ClassFile.FieldType.char)) ∈ TB := tb_t2 175 rfl rfl
theorem kw_416 : (Jvm.Cond.methodLink "HalfMast$Tape" (51 : Nat) ({ cls := "HalfMast$Tape", name := "isLetter", desc := "(C)Z" } : Jvm.MethodName)) ∈ TB := tb_t2 176 rfl rfl
theorem kw_417 : (Jvm.Cond.static ({ cls := "HalfMast$Tape", name := "isLetter", desc := "(C)Z" } : Jvm.MethodName)) ∈ TB := tb_t2 177 rfl rfl
theorem kw_418 : (Jvm.Cond.code ({ cls := "HalfMast$Tape", name := "isLetter", desc := "(C)Z" } : Jvm.MethodName) prog_9_method_9_code (1 : Nat) (Option.some Jvm.ClassFile.FieldType.boolean)) ∈ TB := tb_t2 178 rfl rfl
theorem kw_419 : (Jvm.Cond.methodLink "HalfMast$Tape" (55 : Nat) ({ cls := "HalfMast$Tape", name := "takeInWord", desc := "()V" } : Jvm.MethodName)) ∈ TB := tb_t2 179 rfl rfl
theorem kw_421 : (Jvm.Cond.instanceMethod ({ cls := "HalfMast$Tape", name := "takeInWord", desc := "()V" } : Jvm.MethodName)) ∈ TB := tb_t2 181 rfl rfl
theorem kw_422 : (Jvm.Cond.code ({ cls := "HalfMast$Tape", name := "takeInWord", desc := "()V" } : Jvm.MethodName) prog_9_method_7_code (2 : Nat) (Option.none : Option Jvm.ClassFile.FieldType)) ∈ TB := tb_t2 182 rfl rfl
theorem kw_423 : (Jvm.Cond.constantLong "HalfMast$Tape" (76 : Nat) (32 : Int64)) ∈ TB := tb_t2 183 rfl rfl
theorem kw_425 : (Jvm.Cond.static ({ cls := "HalfMast$Word", name := "by", desc := "(J)LHalfMast$Word;" } : Jvm.MethodName)) ∈ TB := tb_t2 185 rfl rfl
theorem kw_426 : (Jvm.Cond.code ({ cls := "HalfMast$Word", name := "by", desc := "(J)LHalfMast$Word;" } : Jvm.MethodName) prog_11_method_4_code (6 : Nat) (Option.some (Jvm.ClassFile.FieldType.object "HalfMast$Word"))) ∈ TB := tb_t2 186 rfl rfl
theorem kw_427 : (Jvm.Cond.fieldLink "HalfMast$Word" (124 : Nat) "HalfMast$Word" "ALL" "[LHalfMast$Word;") ∈ TB := tb_t2 187 rfl rfl
theorem kw_429 : (Jvm.Cond.fieldLink "HalfMast$Word" (3 : Nat) "HalfMast$Word" "OTHER" "LHalfMast$Word;") ∈ TB := tb_t2 189 rfl rfl
theorem kw_430 : (Jvm.Cond.methodLink "HalfMast$Tape" (58 : Nat) ({ cls := "HalfMast$Tape", name := "isDigit", desc := "(C)Z" } : Jvm.MethodName)) ∈ TB := tb_t2 190 rfl rfl
theorem kw_431 : (Jvm.Cond.static ({ cls := "HalfMast$Tape", name := "isDigit", desc := "(C)Z" } : Jvm.MethodName)) ∈ TB := tb_t2 191 rfl rfl
theorem kw_432 : (Jvm.Cond.code ({ cls := "HalfMast$Tape", name := "isDigit", desc := "(C)Z" } : Jvm.MethodName) prog_9_method_10_code (1 : Nat) (Option.some Jvm.ClassFile.FieldType.boolean)) ∈ TB := tb_t2 192 rfl rfl
theorem kw_433 : (Jvm.Cond.methodLink "HalfMast$Tape" (61 : Nat) ({ cls := "HalfMast$Tape", name := "takeInNumber", desc := "()V" } : Jvm.MethodName)) ∈ TB := tb_t2 193 rfl rfl
theorem kw_435 : (Jvm.Cond.instanceMethod ({ cls := "HalfMast$Tape", name := "takeInNumber", desc := "()V" } : Jvm.MethodName)) ∈ TB := tb_t2 195 rfl rfl
theorem kw_436 : (Jvm.Cond.code ({ cls := "HalfMast$Tape", name := "takeInNumber", desc := "()V" } : Jvm.MethodName) prog_9_method_8_code (1 : Nat) (Option.none : Option Jvm.ClassFile.FieldType)) ∈ TB := tb_t2 196 rfl rfl
theorem kw_438 : (Jvm.Cond.methodLink "HalfMast$Tape" (66 : Nat) ({ cls := "java/lang/String", name := "indexOf", desc := "(I)I" } : Jvm.MethodName)) ∈ TB := tb_t2 198 rfl rfl
theorem kw_439 : (Jvm.Cond.instanceMethod ({ cls := "java/lang/String", name := "indexOf", desc := "(I)I" } : Jvm.MethodName)) ∈ TB := tb_t2 199 rfl rfl
theorem kw_440 : (Jvm.Cond.selects "java/lang/String" ({ cls := "java/lang/String", name := "indexOf", desc := "(I)I" } : Jvm.MethodName) ({ cls := "java/lang/String", name := "indexOf", desc := "(I)I" } : Jvm.MethodName)) ∈ TB := tb_t2 200 rfl rfl
theorem kw_441 : (Jvm.Cond.code ({ cls := "java/lang/String", name := "indexOf", desc := "(I)I" } : Jvm.MethodName) prog_24_method_79_code (2 : Nat) (Option.some Jvm.ClassFile.FieldType.int)) ∈ TB := tb_t2 201 rfl rfl
theorem kw_442 : (Jvm.Cond.methodLink "java/lang/String" (633 : Nat) ({ cls := "java/lang/String", name := "indexOf", desc := "(II)I" } : Jvm.MethodName)) ∈ TB := tb_t2 202 rfl rfl
theorem kw_443 : (Jvm.Cond.instanceMethod ({ cls := "java/lang/String", name := "indexOf", desc := "(II)I" } : Jvm.MethodName)) ∈ TB := tb_t2 203 rfl rfl
theorem kw_444 : (Jvm.Cond.selects "java/lang/String" ({ cls := "java/lang/String", name := "indexOf", desc := "(II)I" } : Jvm.MethodName) ({ cls := "java/lang/String", name := "indexOf", desc := "(II)I" } : Jvm.MethodName)) ∈ TB := tb_t2 204 rfl rfl
theorem kw_445 : (Jvm.Cond.code ({ cls := "java/lang/String", name := "indexOf", desc := "(II)I" } : Jvm.MethodName) prog_24_method_80_code (3 : Nat) (Option.some Jvm.ClassFile.FieldType.int)) ∈ TB := tb_t2 205 rfl rfl
theorem kw_446 : (Jvm.Cond.methodLink "java/lang/String" (492 : Nat) ({ cls := "java/lang/String", name := "isLatin1", desc := "()Z" } : Jvm.MethodName)) ∈ TB := tb_t2 206 rfl rfl
theorem kw_447 : (Jvm.Cond.instanceMethod ({ cls := "java/lang/String", name := "isLatin1", desc := "()Z" } : Jvm.MethodName)) ∈ TB := tb_t2 207 rfl rfl
theorem kw_448 : (Jvm.Cond.selects "java/lang/String" ({ cls := "java/lang/String", name := "isLatin1", desc := "()Z" } : Jvm.MethodName) ({ cls := "java/lang/String", name := "isLatin1", desc := "()Z" } : Jvm.MethodName)) ∈ TB := tb_t2 208 rfl rfl
theorem kw_449 : (Jvm.Cond.code ({ cls := "java/lang/String", name := "isLatin1", desc := "()Z" } : Jvm.MethodName) prog_24_method_154_code (1 : Nat) (Option.some Jvm.ClassFile.FieldType.boolean)) ∈ TB := tb_t2 209 rfl rfl
theorem kw_450 : (Jvm.Cond.fieldLink "java/lang/String" (38 : Nat) "java/lang/String" "COMPACT_STRINGS" "Z") ∈ TB := tb_t2 210 rfl rfl
theorem kw_452 : (Jvm.Cond.methodLink "java/lang/String" (505 : Nat) ({ cls := "java/lang/String", name := "length", desc := "()I" } : Jvm.MethodName)) ∈ TB := tb_t2 212 rfl rfl
theorem kw_453 : (Jvm.Cond.instanceMethod ({ cls := "java/lang/String", name := "length", desc := "()I" } : Jvm.MethodName)) ∈ TB := tb_t2 213 rfl rfl
theorem kw_454 : (Jvm.Cond.selects "java/lang/String" ({ cls := "java/lang/String", name := "length", desc := "()I" } : Jvm.MethodName) ({ cls := "java/lang/String", name := "length", desc := "()I" } : Jvm.MethodName)) ∈ TB := tb_t2 214 rfl rfl
theorem kw_455 : (Jvm.Cond.code ({ cls := "java/lang/String", name := "length", desc := "()I" } : Jvm.MethodName) prog_24_method_54_code (1 : Nat) (Option.some Jvm.ClassFile.FieldType.int)) ∈ TB := tb_t2 215 rfl rfl
theorem kw_456 : (Jvm.Cond.methodLink "java/lang/String" (335 : Nat) ({ cls := "java/lang/String", name := "coder", desc := "()B" } : Jvm.MethodName)) ∈ TB := tb_t2 216 rfl rfl
theorem kw_457 : (Jvm.Cond.instanceMethod ({ cls := "java/lang/String", name := "coder", desc := "()B" } : Jvm.MethodName)) ∈ TB := tb_t2 217 rfl rfl
theorem kw_458 : (Jvm.Cond.selects "java/lang/String" ({ cls := "java/lang/String", name := "coder", desc := "()B" } : Jvm.MethodName) ({ cls := "java/lang/String", name := "coder", desc := "()B" } : Jvm.MethodName)) ∈ TB := tb_t2 218 rfl rfl
theorem kw_459 : (Jvm.Cond.code ({ cls := "java/lang/String", name := "coder", desc := "()B" } : Jvm.MethodName) prog_24_method_152_code (1 : Nat) (Option.some Jvm.ClassFile.FieldType.byte)) ∈ TB := tb_t2 219 rfl rfl
theorem kw_460 : (Jvm.Cond.methodLink "java/lang/String" (637 : Nat) ({ cls := "java/lang/StringLatin1", name := "indexOf", desc := "([BIII)I" } : Jvm.MethodName)) ∈ TB := tb_t2 220 rfl rfl
theorem kw_461 : (Jvm.Cond.static ({ cls := "java/lang/StringLatin1", name := "indexOf", desc := "([BIII)I" } : Jvm.MethodName)) ∈ TB := tb_t2 221 rfl rfl
theorem kw_462 : (Jvm.Cond.code ({ cls := "java/lang/StringLatin1", name := "indexOf", desc := "([BIII)I" } : Jvm.MethodName) prog_25_method_22_code (4 : Nat) (Option.some Jvm.ClassFile.FieldType.int)) ∈ TB := tb_t2 222 rfl rfl
theorem kw_463 : (Jvm.Cond.methodLink "java/lang/StringLatin1" (88 : Nat) ({ cls := "java/lang/StringLatin1", name := "canEncode", desc := "(I)Z" } : Jvm.MethodName)) ∈ TB := tb_t2 223 rfl rfl
theorem kw_464 : (Jvm.Cond.static ({ cls := "java/lang/StringLatin1", name := "canEncode", desc := "(I)Z" } : Jvm.MethodName)) ∈ TB := tb_t2 224 rfl rfl
theorem kw_465 : (Jvm.Cond.code ({ cls := "java/lang/StringLatin1", name := "canEncode", desc := "(I)Z" } : Jvm.MethodName) prog_25_method_4_code (1 : Nat) (Option.some Jvm.ClassFile.FieldType.boolean)) ∈ TB := tb_t2 225 rfl rfl
theorem kw_466 : (Jvm.Cond.methodLink "java/lang/StringLatin1" (92 : Nat) ({ cls := "java/lang/Math", name := "max", desc := "(II)I" } : Jvm.MethodName)) ∈ TB := tb_t2 226 rfl rfl
theorem kw_467 : (Jvm.Cond.methodLink "java/lang/StringLatin1" (38 : Nat) ({ cls := "java/lang/Math", name := "min", desc := "(II)I" } : Jvm.MethodName)) ∈ TB := tb_t2 227 rfl rfl
theorem kw_468 : (Jvm.Cond.static ({ cls := "java/lang/Math", name := "min", desc := "(II)I" } : Jvm.MethodName)) ∈ TB := tb_t2 228 rfl rfl
theorem kw_469 : (Jvm.Cond.code ({ cls := "java/lang/Math", name := "min", desc := "(II)I" } : Jvm.MethodName) prog_22_method_69_code (2 : Nat) (Option.some Jvm.ClassFile.FieldType.int)) ∈ TB := tb_t2 229 rfl rfl
theorem kw_470 : (Jvm.Cond.methodLink "java/lang/StringLatin1" (95 : Nat) ({ cls := "java/lang/StringLatin1", name := "indexOfChar", desc := "([BIII)I" } : Jvm.MethodName)) ∈ TB := tb_t2 230 rfl rfl
theorem kw_471 : (Jvm.Cond.static ({ cls := "java/lang/StringLatin1", name := "indexOfChar", desc := "([BIII)I" } : Jvm.MethodName)) ∈ TB := tb_t2 231 rfl rfl
theorem kw_472 : (Jvm.Cond.code ({ cls := "java/lang/StringLatin1", name := "indexOfChar", desc := "([BIII)I" } : Jvm.MethodName) prog_25_method_23_code (6 : Nat) (Option.some Jvm.ClassFile.FieldType.int)) ∈ TB := tb_t2 232 rfl rfl
theorem kw_473 : (Jvm.Cond.methodLink "java/lang/String" (640 : Nat) ({ cls := "java/lang/StringUTF16", name := "indexOf", desc := "([BIII)I" } : Jvm.MethodName)) ∈ TB := tb_t2 233 rfl rfl
theorem kw_474 : (Jvm.Cond.static ({ cls := "java/lang/StringUTF16", name := "indexOf", desc := "([BIII)I" } : Jvm.MethodName)) ∈ TB := tb_t2 234 rfl rfl
theorem kw_475 : (Jvm.Cond.code ({ cls := "java/lang/StringUTF16", name := "indexOf", desc := "([BIII)I" } : Jvm.MethodName) prog_26_method_40_code (4 : Nat) (Option.some Jvm.ClassFile.FieldType.int)) ∈ TB := tb_t2 235 rfl rfl
theorem kw_476 : (Jvm.Cond.methodLink "java/lang/StringUTF16" (224 : Nat) ({ cls := "java/lang/Math", name := "max", desc := "(II)I" } : Jvm.MethodName)) ∈ TB := tb_t2 236 rfl rfl
theorem kw_477 : (Jvm.Cond.methodLink "java/lang/StringUTF16" (183 : Nat) ({ cls := "java/lang/Math", name := "min", desc := "(II)I" } : Jvm.MethodName)) ∈ TB := tb_t2 237 rfl rfl
theorem kw_478 : (Jvm.Cond.constant "java/lang/StringUTF16" (227 : Nat) (65536 : Int32)) ∈ TB := tb_t2 238 rfl rfl
theorem kw_479 : (Jvm.Cond.methodLink "java/lang/StringUTF16" (228 : Nat) ({ cls := "java/lang/StringUTF16", name := "indexOfChar", desc := "([BIII)I" } : Jvm.MethodName)) ∈ TB := tb_t2 239 rfl rfl
theorem kw_480 : (Jvm.Cond.static ({ cls := "java/lang/StringUTF16", name := "indexOfChar", desc := "([BIII)I" } : Jvm.MethodName)) ∈ TB := tb_t3 0 rfl rfl
theorem kw_481 : (Jvm.Cond.code ({ cls := "java/lang/StringUTF16", name := "indexOfChar", desc := "([BIII)I" } : Jvm.MethodName) prog_26_method_47_code (4 : Nat) (Option.some Jvm.ClassFile.FieldType.int)) ∈ TB := tb_t3 1 rfl rfl
theorem kw_482 : (Jvm.Cond.methodLink "java/lang/StringUTF16" (96 : Nat) ({ cls := "java/lang/StringUTF16", name := "checkBoundsBeginEnd", desc := "(II[B)V" } : Jvm.MethodName)) ∈ TB := tb_t3 2 rfl rfl
theorem kw_483 : (Jvm.Cond.static ({ cls := "java/lang/StringUTF16", name := "checkBoundsBeginEnd", desc := "(II[B)V" } : Jvm.MethodName)) ∈ TB := tb_t3 3 rfl rfl
theorem kw_484 : (Jvm.Cond.code ({ cls := "java/lang/StringUTF16", name := "checkBoundsBeginEnd", desc := "(II[B)V" } : Jvm.MethodName) prog_26_method_93_code (3 : Nat) (Option.none : Option Jvm.ClassFile.FieldType)) ∈ TB := tb_t3 4 rfl rfl
theorem kw_485 : (Jvm.Cond.methodLink "java/lang/StringUTF16" (48 : Nat) ({ cls := "java/lang/StringUTF16", name := "length", desc := "([B)I" } : Jvm.MethodName)) ∈ TB := tb_t3 5 rfl rfl
theorem kw_486 : (Jvm.Cond.static ({ cls := "java/lang/StringUTF16", name := "length", desc := "([B)I" } : Jvm.MethodName)) ∈ TB := tb_t3 6 rfl rfl
theorem kw_487 : (Jvm.Cond.code ({ cls := "java/lang/StringUTF16", name := "length", desc := "([B)I" } : Jvm.MethodName) prog_26_method_6_code (1 : Nat) (Option.some Jvm.ClassFile.FieldType.int)) ∈ TB := tb_t3 7 rfl rfl
theorem kw_488 : (Jvm.Cond.methodLink "java/lang/StringUTF16" (241 : Nat) ({ cls := "java/lang/String", name := "checkBoundsBeginEnd", desc := "(III)V" } : Jvm.MethodName)) ∈ TB := tb_t3 8 rfl rfl
theorem kw_489 : (Jvm.Cond.static ({ cls := "java/lang/String", name := "checkBoundsBeginEnd", desc := "(III)V" } : Jvm.MethodName)) ∈ TB := tb_t3 9 rfl rfl
theorem kw_490 : (Jvm.Cond.code ({ cls := "java/lang/String", name := "checkBoundsBeginEnd", desc := "(III)V" } : Jvm.MethodName) prog_24_method_158_code (3 : Nat) (Option.none : Option Jvm.ClassFile.FieldType)) ∈ TB := tb_t3 10 rfl rfl
theorem kw_491 : (Jvm.Cond.fieldLink "java/lang/String" (1053 : Nat) "jdk/internal/util/Preconditions" "SIOOBE_FORMATTER" "Ljava/util/function/BiFunction;") ∈ TB := tb_t3 11 rfl rfl
theorem kw_493 : (Jvm.Cond.methodLink "java/lang/String" (1062 : Nat) ({ cls := "jdk/internal/util/Preconditions", name := "checkFromToIndex", desc := "(IIILjava/util/function/BiFunction;)I" } : Jvm.MethodName)) ∈ TB := tb_t3 13 rfl rfl
theorem kw_494 : (Jvm.Cond.static ({ cls := "jdk/internal/util/Preconditions", name := "checkFromToIndex", desc := "(IIILjava/util/function/BiFunction;)I" } : Jvm.MethodName)) ∈ TB := tb_t3 14 rfl rfl
theorem kw_495 : (Jvm.Cond.code ({ cls := "jdk/internal/util/Preconditions", name := "checkFromToIndex", desc := "(IIILjava/util/function/BiFunction;)I" } : Jvm.MethodName) prog_33_method_12_code (4 : Nat) (Option.some Jvm.ClassFile.FieldType.int)) ∈ TB := tb_t3 15 rfl rfl
theorem kw_496 : (Jvm.Cond.methodLink "java/lang/StringUTF16" (244 : Nat) ({ cls := "java/lang/StringUTF16", name := "indexOfCharUnsafe", desc := "([BIII)I" } : Jvm.MethodName)) ∈ TB := tb_t3 16 rfl rfl
theorem kw_497 : (Jvm.Cond.static ({ cls := "java/lang/StringUTF16", name := "indexOfCharUnsafe", desc := "([BIII)I" } : Jvm.MethodName)) ∈ TB := tb_t3 17 rfl rfl
theorem kw_498 : (Jvm.Cond.code ({ cls := "java/lang/StringUTF16", name := "indexOfCharUnsafe", desc := "([BIII)I" } : Jvm.MethodName) prog_26_method_48_code (5 : Nat) (Option.some Jvm.ClassFile.FieldType.int)) ∈ TB := tb_t3 18 rfl rfl
theorem kw_499 : (Jvm.Cond.methodLink "java/lang/StringUTF16" (71 : Nat) ({ cls := "java/lang/StringUTF16", name := "getChar", desc := "([BI)C" } : Jvm.MethodName)) ∈ TB := tb_t3 19 rfl rfl
theorem kw_500 : (Jvm.Cond.static ({ cls := "java/lang/StringUTF16", name := "getChar", desc := "([BI)C" } : Jvm.MethodName)) ∈ TB := tb_t3 20 rfl rfl
theorem kw_501 : (Jvm.Cond.code ({ cls := "java/lang/StringUTF16", name := "getChar", desc := "([BI)C" } : Jvm.MethodName) prog_26_method_5_code (2 : Nat) (Option.some Jvm.ClassFile.FieldType.char)) ∈ TB := tb_t3 21 rfl rfl
theorem kw_502 : (Jvm.Cond.fieldLink "java/lang/StringUTF16" (44 : Nat) "java/lang/StringUTF16" "$assertionsDisabled" "Z") ∈ TB := tb_t3 22 rfl rfl
theorem kw_504 : (Jvm.Cond.fieldLink "java/lang/StringUTF16" (59 : Nat) "java/lang/StringUTF16" "HI_BYTE_SHIFT" "I") ∈ TB := tb_t3 24 rfl rfl
theorem kw_506 : (Jvm.Cond.fieldLink "java/lang/StringUTF16" (63 : Nat) "java/lang/StringUTF16" "LO_BYTE_SHIFT" "I") ∈ TB := tb_t3 26 rfl rfl
theorem kw_508 : (Jvm.Cond.methodLink "java/lang/StringUTF16" (232 : Nat) ({ cls := "java/lang/StringUTF16", name := "indexOfSupplementary", desc := "([BIII)I" } : Jvm.MethodName)) ∈ TB := tb_t3 28 rfl rfl
theorem kw_509 : (Jvm.Cond.static ({ cls := "java/lang/StringUTF16", name := "indexOfSupplementary", desc := "([BIII)I" } : Jvm.MethodName)) ∈ TB := tb_t3 29 rfl rfl
theorem kw_510 : (Jvm.Cond.code ({ cls := "java/lang/StringUTF16", name := "indexOfSupplementary", desc := "([BIII)I" } : Jvm.MethodName) prog_26_method_49_code (7 : Nat) (Option.some Jvm.ClassFile.FieldType.int)) ∈ TB := tb_t3 30 rfl rfl
theorem kw_511 : (Jvm.Cond.methodLink "java/lang/StringUTF16" (164 : Nat) ({ cls := "java/lang/Character", name := "isValidCodePoint", desc := "(I)Z" } : Jvm.MethodName)) ∈ TB := tb_t3 31 rfl rfl
theorem kw_512 : (Jvm.Cond.static ({ cls := "java/lang/Character", name := "isValidCodePoint", desc := "(I)Z" } : Jvm.MethodName)) ∈ TB := tb_t3 32 rfl rfl
theorem kw_513 : (Jvm.Cond.code ({ cls := "java/lang/Character", name := "isValidCodePoint", desc := "(I)Z" } : Jvm.MethodName) prog_17_method_11_code (2 : Nat) (Option.some Jvm.ClassFile.FieldType.boolean)) ∈ TB := tb_t3 33 rfl rfl
theorem kw_514 : (Jvm.Cond.methodLink "java/lang/StringUTF16" (157 : Nat) ({ cls := "java/lang/Character", name := "highSurrogate", desc := "(I)C" } : Jvm.MethodName)) ∈ TB := tb_t3 34 rfl rfl
theorem kw_515 : (Jvm.Cond.static ({ cls := "java/lang/Character", name := "highSurrogate", desc := "(I)C" } : Jvm.MethodName)) ∈ TB := tb_t3 35 rfl rfl
theorem kw_516 : (Jvm.Cond.code ({ cls := "java/lang/Character", name := "highSurrogate", desc := "(I)C" } : Jvm.MethodName) prog_17_method_28_code (1 : Nat) (Option.some Jvm.ClassFile.FieldType.char)) ∈ TB := tb_t3 36 rfl rfl
theorem kw_517 : (Jvm.Cond.constant "java/lang/Character" (110 : Nat) (55232 : Int32)) ∈ TB := tb_t3 37 rfl rfl
theorem kw_518 : (Jvm.Cond.methodLink "java/lang/StringUTF16" (161 : Nat) ({ cls := "java/lang/Character", name := "lowSurrogate", desc := "(I)C" } : Jvm.MethodName)) ∈ TB := tb_t3 38 rfl rfl
theorem kw_519 : (Jvm.Cond.static ({ cls := "java/lang/Character", name := "lowSurrogate", desc := "(I)C" } : Jvm.MethodName)) ∈ TB := tb_t3 39 rfl rfl
theorem kw_520 : (Jvm.Cond.code ({ cls := "java/lang/Character", name := "lowSurrogate", desc := "(I)C" } : Jvm.MethodName) prog_17_method_29_code (1 : Nat) (Option.some Jvm.ClassFile.FieldType.char)) ∈ TB := tb_t3 40 rfl rfl
theorem kw_521 : (Jvm.Cond.constant "java/lang/Character" (76 : Nat) (56320 : Int32)) ∈ TB := tb_t3 41 rfl rfl
theorem kw_524 : (Jvm.Cond.instanceMethod ({ cls := "HalfMast$Tape", name := "goesOn", desc := "()Z" } : Jvm.MethodName)) ∈ TB := tb_t3 44 rfl rfl
theorem kw_525 : (Jvm.Cond.code ({ cls := "HalfMast$Tape", name := "goesOn", desc := "()Z" } : Jvm.MethodName) prog_9_method_12_code (1 : Nat) (Option.some Jvm.ClassFile.FieldType.boolean)) ∈ TB := tb_t3 45 rfl rfl
theorem kw_526 : (Jvm.Cond.methodLink "HalfMast$Town" (65 : Nat) ({ cls := "HalfMast$Town", name := "readLine", desc := "(LHalfMast$Tape;)V" } : Jvm.MethodName)) ∈ TB := tb_t3 46 rfl rfl
theorem kw_528 : (Jvm.Cond.instanceMethod ({ cls := "HalfMast$Town", name := "readLine", desc := "(LHalfMast$Tape;)V" } : Jvm.MethodName)) ∈ TB := tb_t3 48 rfl rfl
theorem kw_529 : (Jvm.Cond.code ({ cls := "HalfMast$Town", name := "readLine", desc := "(LHalfMast$Tape;)V" } : Jvm.MethodName) prog_10_method_4_code (2 : Nat) (Option.none : Option Jvm.ClassFile.FieldType)) ∈ TB := tb_t3 49 rfl rfl
theorem kw_530 : (Jvm.Cond.fieldLink "HalfMast$Town" (77 : Nat) "HalfMast$1" "$SwitchMap$HalfMast$Word" "[I") ∈ TB := tb_t3 50 rfl rfl
theorem kw_532 : (Jvm.Cond.methodLink "HalfMast$Town" (86 : Nat) ({ cls := "HalfMast$Word", name := "ordinal", desc := "()I" } : Jvm.MethodName)) ∈ TB := tb_t3 52 rfl rfl
theorem kw_533 : (Jvm.Cond.sameMethod "HalfMast$Word" "java/lang/Enum" "ordinal" "()I") ∈ TB := tb_t3 53 rfl rfl
theorem kw_535 : (Jvm.Cond.selects "HalfMast$Word" ({ cls := "HalfMast$Word", name := "ordinal", desc := "()I" } : Jvm.MethodName) ({ cls := "java/lang/Enum", name := "ordinal", desc := "()I" } : Jvm.MethodName)) ∈ TB := tb_t3 55 rfl rfl
theorem kw_536 : (Jvm.Cond.instanceMethod ({ cls := "java/lang/Enum", name := "ordinal", desc := "()I" } : Jvm.MethodName)) ∈ TB := tb_t3 56 rfl rfl
theorem kw_537 : (Jvm.Cond.code ({ cls := "java/lang/Enum", name := "ordinal", desc := "()I" } : Jvm.MethodName) prog_19_method_2_code (1 : Nat) (Option.some Jvm.ClassFile.FieldType.int)) ∈ TB := tb_t3 57 rfl rfl
theorem kw_538 : (Jvm.Cond.methodLink "HalfMast$Town" (92 : Nat) ({ cls := "HalfMast$Town", name := "readPerson", desc := "(LHalfMast$Tape;)V" } : Jvm.MethodName)) ∈ TB := tb_t3 58 rfl rfl
theorem kw_540 : (Jvm.Cond.instanceMethod ({ cls := "HalfMast$Town", name := "readPerson", desc := "(LHalfMast$Tape;)V" } : Jvm.MethodName)) ∈ TB := tb_t3 60 rfl rfl
theorem kw_541 : (Jvm.Cond.code ({ cls := "HalfMast$Town", name := "readPerson", desc := "(LHalfMast$Tape;)V" } : Jvm.MethodName) prog_10_method_6_code (6 : Nat) (Option.none : Option Jvm.ClassFile.FieldType)) ∈ TB := tb_t3 61 rfl rfl
theorem kw_544 : (Jvm.Cond.instanceMethod ({ cls := "HalfMast$Tape", name := "refuse", desc := "(I)V" } : Jvm.MethodName)) ∈ TB := tb_t3 64 rfl rfl
theorem kw_545 : (Jvm.Cond.code ({ cls := "HalfMast$Tape", name := "refuse", desc := "(I)V" } : Jvm.MethodName) prog_9_method_11_code (2 : Nat) (Option.none : Option Jvm.ClassFile.FieldType)) ∈ TB := tb_t3 65 rfl rfl
theorem kw_547 : (Jvm.Cond.methodLink "HalfMast$Town" (123 : Nat) ({ cls := "HalfMast$Town", name := "takeNewName", desc := "(LHalfMast$Tape;)J" } : Jvm.MethodName)) ∈ TB := tb_t3 67 rfl rfl
theorem kw_549 : (Jvm.Cond.instanceMethod ({ cls := "HalfMast$Town", name := "takeNewName", desc := "(LHalfMast$Tape;)J" } : Jvm.MethodName)) ∈ TB := tb_t3 69 rfl rfl
theorem kw_550 : (Jvm.Cond.code ({ cls := "HalfMast$Town", name := "takeNewName", desc := "(LHalfMast$Tape;)J" } : Jvm.MethodName) prog_10_method_7_code (4 : Nat) (Option.some Jvm.ClassFile.FieldType.long)) ∈ TB := tb_t3 70 rfl rfl
theorem kw_553 : (Jvm.Cond.instanceMethod ({ cls := "HalfMast$Tape", name := "atName", desc := "()Z" } : Jvm.MethodName)) ∈ TB := tb_t3 73 rfl rfl
theorem kw_554 : (Jvm.Cond.code ({ cls := "HalfMast$Tape", name := "atName", desc := "()Z" } : Jvm.MethodName) prog_9_method_15_code (1 : Nat) (Option.some Jvm.ClassFile.FieldType.boolean)) ∈ TB := tb_t3 74 rfl rfl
theorem kw_555 : (Jvm.Cond.methodLink "HalfMast$Town" (151 : Nat) ({ cls := "HalfMast$Town", name := "find", desc := "(J)I" } : Jvm.MethodName)) ∈ TB := tb_t3 75 rfl rfl
theorem kw_557 : (Jvm.Cond.instanceMethod ({ cls := "HalfMast$Town", name := "find", desc := "(J)I" } : Jvm.MethodName)) ∈ TB := tb_t3 77 rfl rfl
theorem kw_558 : (Jvm.Cond.code ({ cls := "HalfMast$Town", name := "find", desc := "(J)I" } : Jvm.MethodName) prog_10_method_16_code (4 : Nat) (Option.some Jvm.ClassFile.FieldType.int)) ∈ TB := tb_t3 78 rfl rfl
theorem kw_559 : (Jvm.Cond.methodLink "HalfMast$Town" (127 : Nat) ({ cls := "HalfMast$Town", name := "takeKind", desc := "(LHalfMast$Tape;)I" } : Jvm.MethodName)) ∈ TB := tb_t3 79 rfl rfl
theorem kw_560 : (Jvm.Cond.static ({ cls := "HalfMast$Town", name := "takeKind", desc := "(LHalfMast$Tape;)I" } : Jvm.MethodName)) ∈ TB := tb_t3 80 rfl rfl
theorem kw_561 : (Jvm.Cond.code ({ cls := "HalfMast$Town", name := "takeKind", desc := "(LHalfMast$Tape;)I" } : Jvm.MethodName) prog_10_method_8_code (2 : Nat) (Option.some Jvm.ClassFile.FieldType.int)) ∈ TB := tb_t3 81 rfl rfl
theorem kw_562 : (Jvm.Cond.methodLink "HalfMast$Town" (155 : Nat) ({ cls := "HalfMast$Town", name := "kindOf", desc := "(LHalfMast$Word;)I" } : Jvm.MethodName)) ∈ TB := tb_t3 82 rfl rfl
theorem kw_563 : (Jvm.Cond.static ({ cls := "HalfMast$Town", name := "kindOf", desc := "(LHalfMast$Word;)I" } : Jvm.MethodName)) ∈ TB := tb_t3 83 rfl rfl
theorem kw_564 : (Jvm.Cond.code ({ cls := "HalfMast$Town", name := "kindOf", desc := "(LHalfMast$Word;)I" } : Jvm.MethodName) prog_10_method_9_code (1 : Nat) (Option.some Jvm.ClassFile.FieldType.int)) ∈ TB := tb_t3 84 rfl rfl
theorem kw_565 : (Jvm.Cond.fieldLink "HalfMast$Town" (130 : Nat) "HalfMast$Word" "LACKS" "LHalfMast$Word;") ∈ TB := tb_t3 85 rfl rfl
theorem kw_569 : (Jvm.Cond.instanceMethod ({ cls := "HalfMast$Tape", name := "takeWord", desc := "(LHalfMast$Word;)V" } : Jvm.MethodName)) ∈ TB := tb_t3 89 rfl rfl
theorem kw_570 : (Jvm.Cond.code ({ cls := "HalfMast$Tape", name := "takeWord", desc := "(LHalfMast$Word;)V" } : Jvm.MethodName) prog_9_method_18_code (2 : Nat) (Option.none : Option Jvm.ClassFile.FieldType)) ∈ TB := tb_t3 90 rfl rfl
theorem kw_571 : (Jvm.Cond.methodLink "HalfMast$Tape" (96 : Nat) ({ cls := "HalfMast$Tape", name := "atWord", desc := "(LHalfMast$Word;)Z" } : Jvm.MethodName)) ∈ TB := tb_t3 91 rfl rfl
theorem kw_573 : (Jvm.Cond.instanceMethod ({ cls := "HalfMast$Tape", name := "atWord", desc := "(LHalfMast$Word;)Z" } : Jvm.MethodName)) ∈ TB := tb_t3 93 rfl rfl
theorem kw_574 : (Jvm.Cond.code ({ cls := "HalfMast$Tape", name := "atWord", desc := "(LHalfMast$Word;)Z" } : Jvm.MethodName) prog_9_method_14_code (2 : Nat) (Option.some Jvm.ClassFile.FieldType.boolean)) ∈ TB := tb_t3 94 rfl rfl
theorem kw_575 : (Jvm.Cond.methodLink "HalfMast$Tape" (92 : Nat) ({ cls := "HalfMast$Tape", name := "refuse", desc := "(I)V" } : Jvm.MethodName)) ∈ TB := tb_t3 95 rfl rfl
theorem kw_578 : (Jvm.Cond.instanceMethod ({ cls := "HalfMast$Tape", name := "takeNumber", desc := "(II)I" } : Jvm.MethodName)) ∈ TB := tb_t3 98 rfl rfl
theorem kw_579 : (Jvm.Cond.code ({ cls := "HalfMast$Tape", name := "takeNumber", desc := "(II)I" } : Jvm.MethodName) prog_9_method_19_code (4 : Nat) (Option.some Jvm.ClassFile.FieldType.int)) ∈ TB := tb_t3 99 rfl rfl
theorem kw_580 : (Jvm.Cond.methodLink "HalfMast$Tape" (100 : Nat) ({ cls := "HalfMast$Tape", name := "atNumber", desc := "()Z" } : Jvm.MethodName)) ∈ TB := tb_t3 100 rfl rfl
theorem kw_582 : (Jvm.Cond.instanceMethod ({ cls := "HalfMast$Tape", name := "atNumber", desc := "()Z" } : Jvm.MethodName)) ∈ TB := tb_t3 102 rfl rfl
theorem kw_583 : (Jvm.Cond.code ({ cls := "HalfMast$Tape", name := "atNumber", desc := "()Z" } : Jvm.MethodName) prog_9_method_16_code (1 : Nat) (Option.some Jvm.ClassFile.FieldType.boolean)) ∈ TB := tb_t3 103 rfl rfl
theorem kw_585 : (Jvm.Cond.methodLink "HalfMast$Town" (95 : Nat) ({ cls := "HalfMast$Town", name := "readFeels", desc := "(LHalfMast$Tape;)V" } : Jvm.MethodName)) ∈ TB := tb_t3 105 rfl rfl
theorem kw_587 : (Jvm.Cond.instanceMethod ({ cls := "HalfMast$Town", name := "readFeels", desc := "(LHalfMast$Tape;)V" } : Jvm.MethodName)) ∈ TB := tb_t3 107 rfl rfl
theorem kw_588 : (Jvm.Cond.code ({ cls := "HalfMast$Town", name := "readFeels", desc := "(LHalfMast$Tape;)V" } : Jvm.MethodName) prog_10_method_12_code (4 : Nat) (Option.none : Option Jvm.ClassFile.FieldType)) ∈ TB := tb_t3 108 rfl rfl
theorem kw_589 : (Jvm.Cond.methodLink "HalfMast$Town" (162 : Nat) ({ cls := "HalfMast$Town", name := "takePerson", desc := "(LHalfMast$Tape;)I" } : Jvm.MethodName)) ∈ TB := tb_t3 109 rfl rfl
theorem kw_591 : (Jvm.Cond.instanceMethod ({ cls := "HalfMast$Town", name := "takePerson", desc := "(LHalfMast$Tape;)I" } : Jvm.MethodName)) ∈ TB := tb_t3 111 rfl rfl
theorem kw_592 : (Jvm.Cond.code ({ cls := "HalfMast$Town", name := "takePerson", desc := "(LHalfMast$Tape;)I" } : Jvm.MethodName) prog_10_method_13_code (3 : Nat) (Option.some Jvm.ClassFile.FieldType.int)) ∈ TB := tb_t3 112 rfl rfl
theorem kw_593 : (Jvm.Cond.methodLink "HalfMast$Town" (165 : Nat) ({ cls := "HalfMast$Town", name := "personAt", desc := "(LHalfMast$Tape;)I" } : Jvm.MethodName)) ∈ TB := tb_t3 113 rfl rfl
theorem kw_595 : (Jvm.Cond.instanceMethod ({ cls := "HalfMast$Town", name := "personAt", desc := "(LHalfMast$Tape;)I" } : Jvm.MethodName)) ∈ TB := tb_t3 115 rfl rfl
theorem kw_596 : (Jvm.Cond.code ({ cls := "HalfMast$Town", name := "personAt", desc := "(LHalfMast$Tape;)I" } : Jvm.MethodName) prog_10_method_15_code (3 : Nat) (Option.some Jvm.ClassFile.FieldType.int)) ∈ TB := tb_t3 116 rfl rfl
theorem kw_599 : (Jvm.Cond.instanceMethod ({ cls := "HalfMast$State", name := "feels", desc := "(II)Z" } : Jvm.MethodName)) ∈ TB := tb_t3 119 rfl rfl
theorem kw_600 : (Jvm.Cond.code ({ cls := "HalfMast$State", name := "feels", desc := "(II)Z" } : Jvm.MethodName) prog_8_method_4_code (3 : Nat) (Option.some Jvm.ClassFile.FieldType.boolean)) ∈ TB := tb_t3 120 rfl rfl
theorem kw_603 : (Jvm.Cond.static ({ cls := "HalfMast", name := "holds", desc := "(II)Z" } : Jvm.MethodName)) ∈ TB := tb_t3 123 rfl rfl
theorem kw_604 : (Jvm.Cond.code ({ cls := "HalfMast", name := "holds", desc := "(II)Z" } : Jvm.MethodName) prog_1_method_73_code (2 : Nat) (Option.some Jvm.ClassFile.FieldType.boolean)) ∈ TB := tb_t3 124 rfl rfl
theorem kw_605 : (Jvm.Cond.methodLink "HalfMast" (225 : Nat) ({ cls := "HalfMast", name := "bit", desc := "(I)I" } : Jvm.MethodName)) ∈ TB := tb_t3 125 rfl rfl
theorem kw_606 : (Jvm.Cond.static ({ cls := "HalfMast", name := "bit", desc := "(I)I" } : Jvm.MethodName)) ∈ TB := tb_t3 126 rfl rfl
theorem kw_607 : (Jvm.Cond.code ({ cls := "HalfMast", name := "bit", desc := "(I)I" } : Jvm.MethodName) prog_1_method_72_code (1 : Nat) (Option.some Jvm.ClassFile.FieldType.int)) ∈ TB := tb_t3 127 rfl rfl
theorem kw_610 : (Jvm.Cond.instanceMethod ({ cls := "HalfMast$State", name := "turnFeeling", desc := "(II)V" } : Jvm.MethodName)) ∈ TB := tb_t3 130 rfl rfl
theorem kw_611 : (Jvm.Cond.code ({ cls := "HalfMast$State", name := "turnFeeling", desc := "(II)V" } : Jvm.MethodName) prog_8_method_5_code (3 : Nat) (Option.none : Option Jvm.ClassFile.FieldType)) ∈ TB := tb_t3 131 rfl rfl
theorem kw_614 : (Jvm.Cond.methodLink "HalfMast$Town" (98 : Nat) ({ cls := "HalfMast$Town", name := "beginOnce", desc := "(LHalfMast$Tape;I)V" } : Jvm.MethodName)) ∈ TB := tb_t3 134 rfl rfl
theorem kw_616 : (Jvm.Cond.instanceMethod ({ cls := "HalfMast$Town", name := "beginOnce", desc := "(LHalfMast$Tape;I)V" } : Jvm.MethodName)) ∈ TB := tb_t3 136 rfl rfl
theorem kw_617 : (Jvm.Cond.code ({ cls := "HalfMast$Town", name := "beginOnce", desc := "(LHalfMast$Tape;I)V" } : Jvm.MethodName) prog_10_method_5_code (3 : Nat) (Option.none : Option Jvm.ClassFile.FieldType)) ∈ TB := tb_t3 137 rfl rfl
theorem kw_618 : (Jvm.Cond.methodLink "HalfMast$Town" (106 : Nat) ({ cls := "HalfMast$Town", name := "takeRounding", desc := "(LHalfMast$Tape;)I" } : Jvm.MethodName)) ∈ TB := tb_t3 138 rfl rfl
theorem kw_619 : (Jvm.Cond.static ({ cls := "HalfMast$Town", name := "takeRounding", desc := "(LHalfMast$Tape;)I" } : Jvm.MethodName)) ∈ TB := tb_t3 139 rfl rfl
theorem kw_620 : (Jvm.Cond.code ({ cls := "HalfMast$Town", name := "takeRounding", desc := "(LHalfMast$Tape;)I" } : Jvm.MethodName) prog_10_method_10_code (2 : Nat) (Option.some Jvm.ClassFile.FieldType.int)) ∈ TB := tb_t3 140 rfl rfl
theorem kw_621 : (Jvm.Cond.methodLink "HalfMast$Town" (159 : Nat) ({ cls := "HalfMast$Town", name := "roundingOf", desc := "(LHalfMast$Word;)I" } : Jvm.MethodName)) ∈ TB := tb_t3 141 rfl rfl
theorem kw_622 : (Jvm.Cond.static ({ cls := "HalfMast$Town", name := "roundingOf", desc := "(LHalfMast$Word;)I" } : Jvm.MethodName)) ∈ TB := tb_t3 142 rfl rfl
theorem kw_623 : (Jvm.Cond.code ({ cls := "HalfMast$Town", name := "roundingOf", desc := "(LHalfMast$Word;)I" } : Jvm.MethodName) prog_10_method_11_code (1 : Nat) (Option.some Jvm.ClassFile.FieldType.int)) ∈ TB := tb_t3 143 rfl rfl
theorem kw_627 : (Jvm.Cond.instanceMethod ({ cls := "HalfMast$Law", name := "readWhole", desc := "(LHalfMast$Tape;I)V" } : Jvm.MethodName)) ∈ TB := tb_t3 147 rfl rfl
theorem kw_628 : (Jvm.Cond.code ({ cls := "HalfMast$Law", name := "readWhole", desc := "(LHalfMast$Tape;I)V" } : Jvm.MethodName) prog_5_method_5_code (5 : Nat) (Option.none : Option Jvm.ClassFile.FieldType)) ∈ TB := tb_t3 148 rfl rfl
theorem kw_629 : (Jvm.Cond.methodLink "HalfMast$Law" (33 : Nat) ({ cls := "HalfMast$Law", name := "readTest", desc := "(LHalfMast$Tape;I)V" } : Jvm.MethodName)) ∈ TB := tb_t3 149 rfl rfl
theorem kw_631 : (Jvm.Cond.instanceMethod ({ cls := "HalfMast$Law", name := "readTest", desc := "(LHalfMast$Tape;I)V" } : Jvm.MethodName)) ∈ TB := tb_t3 151 rfl rfl
theorem kw_632 : (Jvm.Cond.code ({ cls := "HalfMast$Law", name := "readTest", desc := "(LHalfMast$Tape;I)V" } : Jvm.MethodName) prog_5_method_6_code (4 : Nat) (Option.none : Option Jvm.ClassFile.FieldType)) ∈ TB := tb_t3 152 rfl rfl
theorem kw_633 : (Jvm.Cond.methodLink "HalfMast$Law" (55 : Nat) ({ cls := "HalfMast$Law", name := "readSum", desc := "(LHalfMast$Tape;I)V" } : Jvm.MethodName)) ∈ TB := tb_t3 153 rfl rfl
theorem kw_635 : (Jvm.Cond.instanceMethod ({ cls := "HalfMast$Law", name := "readSum", desc := "(LHalfMast$Tape;I)V" } : Jvm.MethodName)) ∈ TB := tb_t3 155 rfl rfl
theorem kw_636 : (Jvm.Cond.code ({ cls := "HalfMast$Law", name := "readSum", desc := "(LHalfMast$Tape;I)V" } : Jvm.MethodName) prog_5_method_7_code (5 : Nat) (Option.none : Option Jvm.ClassFile.FieldType)) ∈ TB := tb_t3 156 rfl rfl
theorem kw_637 : (Jvm.Cond.methodLink "HalfMast$Law" (62 : Nat) ({ cls := "HalfMast$Law", name := "readProduct", desc := "(LHalfMast$Tape;I)V" } : Jvm.MethodName)) ∈ TB := tb_t3 157 rfl rfl
theorem kw_639 : (Jvm.Cond.instanceMethod ({ cls := "HalfMast$Law", name := "readProduct", desc := "(LHalfMast$Tape;I)V" } : Jvm.MethodName)) ∈ TB := tb_t3 159 rfl rfl
theorem kw_640 : (Jvm.Cond.code ({ cls := "HalfMast$Law", name := "readProduct", desc := "(LHalfMast$Tape;I)V" } : Jvm.MethodName) prog_5_method_8_code (4 : Nat) (Option.none : Option Jvm.ClassFile.FieldType)) ∈ TB := tb_t3 160 rfl rfl
theorem kw_641 : (Jvm.Cond.methodLink "HalfMast$Law" (65 : Nat) ({ cls := "HalfMast$Law", name := "readPart", desc := "(LHalfMast$Tape;I)V" } : Jvm.MethodName)) ∈ TB := tb_t3 161 rfl rfl
theorem kw_643 : (Jvm.Cond.instanceMethod ({ cls := "HalfMast$Law", name := "readPart", desc := "(LHalfMast$Tape;I)V" } : Jvm.MethodName)) ∈ TB := tb_t3 163 rfl rfl
theorem kw_644 : (Jvm.Cond.code ({ cls := "HalfMast$Law", name := "readPart", desc := "(LHalfMast$Tape;I)V" } : Jvm.MethodName) prog_5_method_9_code (5 : Nat) (Option.none : Option Jvm.ClassFile.FieldType)) ∈ TB := tb_t3 164 rfl rfl
theorem kw_646 : (Jvm.Cond.methodLink "HalfMast$Law" (78 : Nat) ({ cls := "HalfMast$Law", name := "factOf", desc := "(LHalfMast$Word;)I" } : Jvm.MethodName)) ∈ TB := tb_t3 166 rfl rfl
theorem kw_647 : (Jvm.Cond.static ({ cls := "HalfMast$Law", name := "factOf", desc := "(LHalfMast$Word;)I" } : Jvm.MethodName)) ∈ TB := tb_t3 167 rfl rfl
theorem kw_648 : (Jvm.Cond.code ({ cls := "HalfMast$Law", name := "factOf", desc := "(LHalfMast$Word;)I" } : Jvm.MethodName) prog_5_method_10_code (1 : Nat) (Option.some Jvm.ClassFile.FieldType.int)) ∈ TB := tb_t3 168 rfl rfl
theorem kw_649 : (Jvm.Cond.fieldLink "HalfMast$Law" (95 : Nat) "HalfMast$1" "$SwitchMap$HalfMast$Word" "[I") ∈ TB := tb_t3 169 rfl rfl
theorem kw_650 : (Jvm.Cond.methodLink "HalfMast$Law" (100 : Nat) ({ cls := "HalfMast$Word", name := "ordinal", desc := "()I" } : Jvm.MethodName)) ∈ TB := tb_t3 170 rfl rfl
theorem kw_651 : (Jvm.Cond.fieldLink "HalfMast$Law" (82 : Nat) "HalfMast$Word" "NOT" "LHalfMast$Word;") ∈ TB := tb_t3 171 rfl rfl
theorem kw_656 : (Jvm.Cond.instanceMethod ({ cls := "HalfMast$Tape", name := "atSign", desc := "(C)Z" } : Jvm.MethodName)) ∈ TB := tb_t3 176 rfl rfl
theorem kw_657 : (Jvm.Cond.code ({ cls := "HalfMast$Tape", name := "atSign", desc := "(C)Z" } : Jvm.MethodName) prog_9_method_13_code (2 : Nat) (Option.some Jvm.ClassFile.FieldType.boolean)) ∈ TB := tb_t3 177 rfl rfl
theorem kw_660 : (Jvm.Cond.methodLink "HalfMast$Law" (88 : Nat) ({ cls := "HalfMast$Law", name := "readWhole", desc := "(LHalfMast$Tape;I)V" } : Jvm.MethodName)) ∈ TB := tb_t3 180 rfl rfl
theorem kw_663 : (Jvm.Cond.instanceMethod ({ cls := "HalfMast$Tape", name := "takeSign", desc := "(C)V" } : Jvm.MethodName)) ∈ TB := tb_t3 183 rfl rfl
theorem kw_664 : (Jvm.Cond.code ({ cls := "HalfMast$Tape", name := "takeSign", desc := "(C)V" } : Jvm.MethodName) prog_9_method_17_code (2 : Nat) (Option.none : Option Jvm.ClassFile.FieldType)) ∈ TB := tb_t3 184 rfl rfl
theorem kw_665 : (Jvm.Cond.methodLink "HalfMast$Tape" (89 : Nat) ({ cls := "HalfMast$Tape", name := "atSign", desc := "(C)Z" } : Jvm.MethodName)) ∈ TB := tb_t3 185 rfl rfl
theorem kw_666 : (Jvm.Cond.fieldLink "HalfMast$Law" (37 : Nat) "HalfMast$Word" "AND" "LHalfMast$Word;") ∈ TB := tb_t3 186 rfl rfl
theorem kw_668 : (Jvm.Cond.fieldLink "HalfMast$Law" (49 : Nat) "HalfMast$Word" "OR" "LHalfMast$Word;") ∈ TB := tb_t3 188 rfl rfl
theorem kw_673 : (Jvm.Cond.instanceMethod ({ cls := "HalfMast$Tape", name := "clear", desc := "()V" } : Jvm.MethodName)) ∈ TB := tb_t3 193 rfl rfl
theorem kw_674 : (Jvm.Cond.code ({ cls := "HalfMast$Tape", name := "clear", desc := "()V" } : Jvm.MethodName) prog_9_method_4_code (1 : Nat) (Option.none : Option Jvm.ClassFile.FieldType)) ∈ TB := tb_t3 194 rfl rfl
theorem kw_675 : (Jvm.Cond.methodLink "HalfMast" (97 : Nat) ({ cls := "HalfMast", name := "moveToDraft", desc := "()V" } : Jvm.MethodName)) ∈ TB := tb_t3 195 rfl rfl
theorem kw_677 : (Jvm.Cond.instanceMethod ({ cls := "HalfMast", name := "moveToDraft", desc := "()V" } : Jvm.MethodName)) ∈ TB := tb_t3 197 rfl rfl
theorem kw_678 : (Jvm.Cond.code ({ cls := "HalfMast", name := "moveToDraft", desc := "()V" } : Jvm.MethodName) prog_1_method_4_code (4 : Nat) (Option.none : Option Jvm.ClassFile.FieldType)) ∈ TB := tb_t3 198 rfl rfl
theorem kw_681 : (Jvm.Cond.instanceMethod ({ cls := "HalfMast$Year", name := "clear", desc := "()V" } : Jvm.MethodName)) ∈ TB := tb_t3 201 rfl rfl
theorem kw_682 : (Jvm.Cond.code ({ cls := "HalfMast$Year", name := "clear", desc := "()V" } : Jvm.MethodName) prog_12_method_2_code (1 : Nat) (Option.none : Option Jvm.ClassFile.FieldType)) ∈ TB := tb_t3 202 rfl rfl
theorem kw_685 : (Jvm.Cond.instanceMethod ({ cls := "HalfMast$Notes", name := "clear", desc := "()V" } : Jvm.MethodName)) ∈ TB := tb_t3 205 rfl rfl
theorem kw_686 : (Jvm.Cond.code ({ cls := "HalfMast$Notes", name := "clear", desc := "()V" } : Jvm.MethodName) prog_7_method_2_code (1 : Nat) (Option.none : Option Jvm.ClassFile.FieldType)) ∈ TB := tb_t3 206 rfl rfl
theorem kw_689 : (Jvm.Cond.instanceMethod ({ cls := "HalfMast$History", name := "clear", desc := "()V" } : Jvm.MethodName)) ∈ TB := tb_t3 209 rfl rfl
theorem kw_690 : (Jvm.Cond.code ({ cls := "HalfMast$History", name := "clear", desc := "()V" } : Jvm.MethodName) prog_4_method_2_code (1 : Nat) (Option.none : Option Jvm.ClassFile.FieldType)) ∈ TB := tb_t3 210 rfl rfl
theorem kw_691 : (Jvm.Cond.methodLink "HalfMast" (103 : Nat) ({ cls := "HalfMast", name := "markAt", desc := "(I)LHalfMast$Mark;" } : Jvm.MethodName)) ∈ TB := tb_t3 211 rfl rfl
theorem kw_693 : (Jvm.Cond.instanceMethod ({ cls := "HalfMast", name := "markAt", desc := "(I)LHalfMast$Mark;" } : Jvm.MethodName)) ∈ TB := tb_t3 213 rfl rfl
theorem kw_694 : (Jvm.Cond.code ({ cls := "HalfMast", name := "markAt", desc := "(I)LHalfMast$Mark;" } : Jvm.MethodName) prog_1_method_65_code (2 : Nat) (Option.some (Jvm.ClassFile.FieldType.object "HalfMast$Mark"))) ∈ TB := tb_t3 214 rfl rfl
theorem kw_695 : (Jvm.Cond.arrayClass Jvm.ClassFile.FieldType.byte) ∈ TB := tb_t3 215 rfl rfl
theorem kw_696 : (Jvm.Cond.methodLink "HalfMastLaw" (31 : Nat) ({ cls := "HalfMast", name := "year", desc := "()I" } : Jvm.MethodName)) ∈ TB := tb_t3 216 rfl rfl
theorem kw_697 : (Jvm.Cond.instanceMethod ({ cls := "HalfMast", name := "year", desc := "()I" } : Jvm.MethodName)) ∈ TB := tb_t3 217 rfl rfl
theorem kw_698 : (Jvm.Cond.selects "HalfMast" ({ cls := "HalfMast", name := "year", desc := "()I" } : Jvm.MethodName) ({ cls := "HalfMast", name := "year", desc := "()I" } : Jvm.MethodName)) ∈ TB := tb_t3 218 rfl rfl
theorem kw_699 : (Jvm.Cond.code ({ cls := "HalfMast", name := "year", desc := "()I" } : Jvm.MethodName) prog_1_method_5_code (3 : Nat) (Option.some Jvm.ClassFile.FieldType.int)) ∈ TB := tb_t3 219 rfl rfl
theorem kw_702 : (Jvm.Cond.instanceMethod ({ cls := "HalfMast$Year", name := "read", desc := "(LHalfMast$Tape;LHalfMast$Town;)I" } : Jvm.MethodName)) ∈ TB := tb_t3 222 rfl rfl
theorem kw_703 : (Jvm.Cond.code ({ cls := "HalfMast$Year", name := "read", desc := "(LHalfMast$Tape;LHalfMast$Town;)I" } : Jvm.MethodName) prog_12_method_3_code (4 : Nat) (Option.some Jvm.ClassFile.FieldType.int)) ∈ TB := tb_t3 223 rfl rfl
theorem kw_704 : (Jvm.Cond.methodLink "HalfMast$Year" (25 : Nat) ({ cls := "HalfMast$Year", name := "clear", desc := "()V" } : Jvm.MethodName)) ∈ TB := tb_t3 224 rfl rfl
theorem kw_707 : (Jvm.Cond.methodLink "HalfMast$Year" (37 : Nat) ({ cls := "HalfMast$Year", name := "readLine", desc := "(LHalfMast$Tape;LHalfMast$Town;)V" } : Jvm.MethodName)) ∈ TB := tb_t3 227 rfl rfl
theorem kw_709 : (Jvm.Cond.instanceMethod ({ cls := "HalfMast$Year", name := "readLine", desc := "(LHalfMast$Tape;LHalfMast$Town;)V" } : Jvm.MethodName)) ∈ TB := tb_t3 229 rfl rfl
theorem kw_710 : (Jvm.Cond.code ({ cls := "HalfMast$Year", name := "readLine", desc := "(LHalfMast$Tape;LHalfMast$Town;)V" } : Jvm.MethodName) prog_12_method_4_code (4 : Nat) (Option.none : Option Jvm.ClassFile.FieldType)) ∈ TB := tb_t3 230 rfl rfl
theorem kw_711 : (Jvm.Cond.methodLink "HalfMast$Year" (53 : Nat) ({ cls := "HalfMast$Year", name := "deedOf", desc := "(LHalfMast$Word;)I" } : Jvm.MethodName)) ∈ TB := tb_t3 231 rfl rfl
theorem kw_712 : (Jvm.Cond.static ({ cls := "HalfMast$Year", name := "deedOf", desc := "(LHalfMast$Word;)I" } : Jvm.MethodName)) ∈ TB := tb_t3 232 rfl rfl
theorem kw_713 : (Jvm.Cond.code ({ cls := "HalfMast$Year", name := "deedOf", desc := "(LHalfMast$Word;)I" } : Jvm.MethodName) prog_12_method_6_code (1 : Nat) (Option.some Jvm.ClassFile.FieldType.int)) ∈ TB := tb_t3 233 rfl rfl
theorem kw_714 : (Jvm.Cond.fieldLink "HalfMast$Year" (90 : Nat) "HalfMast$1" "$SwitchMap$HalfMast$Word" "[I") ∈ TB := tb_t3 234 rfl rfl
theorem kw_715 : (Jvm.Cond.methodLink "HalfMast$Year" (95 : Nat) ({ cls := "HalfMast$Word", name := "ordinal", desc := "()I" } : Jvm.MethodName)) ∈ TB := tb_t3 235 rfl rfl
theorem kw_720 : (Jvm.Cond.methodLink "HalfMast$Year" (74 : Nat) ({ cls := "HalfMast$Year", name := "takeSecond", desc := "(LHalfMast$Tape;LHalfMast$Town;I)I" } : Jvm.MethodName)) ∈ TB := tb_t4 0 rfl rfl
theorem kw_722 : (Jvm.Cond.instanceMethod ({ cls := "HalfMast$Year", name := "takeSecond", desc := "(LHalfMast$Tape;LHalfMast$Town;I)I" } : Jvm.MethodName)) ∈ TB := tb_t4 2 rfl rfl
theorem kw_723 : (Jvm.Cond.code ({ cls := "HalfMast$Year", name := "takeSecond", desc := "(LHalfMast$Tape;LHalfMast$Town;I)I" } : Jvm.MethodName) prog_12_method_5_code (4 : Nat) (Option.some Jvm.ClassFile.FieldType.int)) ∈ TB := tb_t4 3 rfl rfl
theorem kw_727 : (Jvm.Cond.instanceMethod ({ cls := "HalfMast$Town", name := "takeOther", desc := "(LHalfMast$Tape;I)I" } : Jvm.MethodName)) ∈ TB := tb_t4 7 rfl rfl
theorem kw_728 : (Jvm.Cond.code ({ cls := "HalfMast$Town", name := "takeOther", desc := "(LHalfMast$Tape;I)I" } : Jvm.MethodName) prog_10_method_14_code (4 : Nat) (Option.some Jvm.ClassFile.FieldType.int)) ∈ TB := tb_t4 8 rfl rfl
theorem kw_732 : (Jvm.Cond.methodLink "HalfMastLaw" (35 : Nat) ({ cls := "HalfMast", name := "high", desc := "()I" } : Jvm.MethodName)) ∈ TB := tb_t4 12 rfl rfl
theorem kw_733 : (Jvm.Cond.instanceMethod ({ cls := "HalfMast", name := "high", desc := "()I" } : Jvm.MethodName)) ∈ TB := tb_t4 13 rfl rfl
theorem kw_734 : (Jvm.Cond.selects "HalfMast" ({ cls := "HalfMast", name := "high", desc := "()I" } : Jvm.MethodName) ({ cls := "HalfMast", name := "high", desc := "()I" } : Jvm.MethodName)) ∈ TB := tb_t4 14 rfl rfl
theorem kw_735 : (Jvm.Cond.code ({ cls := "HalfMast", name := "high", desc := "()I" } : Jvm.MethodName) prog_1_method_6_code (1 : Nat) (Option.some Jvm.ClassFile.FieldType.int)) ∈ TB := tb_t4 15 rfl rfl
theorem kw_736 : (Jvm.Cond.methodLink "HalfMastLaw" (39 : Nat) ({ cls := "HalfMast", name := "person", desc := "(II)I" } : Jvm.MethodName)) ∈ TB := tb_t4 16 rfl rfl
theorem kw_737 : (Jvm.Cond.instanceMethod ({ cls := "HalfMast", name := "person", desc := "(II)I" } : Jvm.MethodName)) ∈ TB := tb_t4 17 rfl rfl
theorem kw_738 : (Jvm.Cond.selects "HalfMast" ({ cls := "HalfMast", name := "person", desc := "(II)I" } : Jvm.MethodName) ({ cls := "HalfMast", name := "person", desc := "(II)I" } : Jvm.MethodName)) ∈ TB := tb_t4 18 rfl rfl
theorem kw_739 : (Jvm.Cond.code ({ cls := "HalfMast", name := "person", desc := "(II)I" } : Jvm.MethodName) prog_1_method_7_code (3 : Nat) (Option.some Jvm.ClassFile.FieldType.int)) ∈ TB := tb_t4 19 rfl rfl
theorem kw_742 : (Jvm.Cond.instanceMethod ({ cls := "HalfMast$Town", name := "has", desc := "(I)Z" } : Jvm.MethodName)) ∈ TB := tb_t4 22 rfl rfl
theorem kw_743 : (Jvm.Cond.code ({ cls := "HalfMast$Town", name := "has", desc := "(I)Z" } : Jvm.MethodName) prog_10_method_17_code (2 : Nat) (Option.some Jvm.ClassFile.FieldType.boolean)) ∈ TB := tb_t4 23 rfl rfl
theorem kw_744 : (Jvm.Cond.methodLink "HalfMast" (124 : Nat) ({ cls := "HalfMast", name := "at", desc := "([II)I" } : Jvm.MethodName)) ∈ TB := tb_t4 24 rfl rfl
theorem kw_747 : (Jvm.Cond.instanceMethod ({ cls := "HalfMast$Course", name := "lacking", desc := "(I)I" } : Jvm.MethodName)) ∈ TB := tb_t4 27 rfl rfl
theorem kw_748 : (Jvm.Cond.code ({ cls := "HalfMast$Course", name := "lacking", desc := "(I)I" } : Jvm.MethodName) prog_3_method_5_code (2 : Nat) (Option.some Jvm.ClassFile.FieldType.int)) ∈ TB := tb_t4 28 rfl rfl
theorem kw_751 : (Jvm.Cond.methodLink "HalfMastLaw" (44 : Nat) ({ cls := "HalfMast", name := "lose", desc := "(II)I" } : Jvm.MethodName)) ∈ TB := tb_t4 31 rfl rfl
theorem kw_752 : (Jvm.Cond.instanceMethod ({ cls := "HalfMast", name := "lose", desc := "(II)I" } : Jvm.MethodName)) ∈ TB := tb_t4 32 rfl rfl
theorem kw_753 : (Jvm.Cond.selects "HalfMast" ({ cls := "HalfMast", name := "lose", desc := "(II)I" } : Jvm.MethodName) ({ cls := "HalfMast", name := "lose", desc := "(II)I" } : Jvm.MethodName)) ∈ TB := tb_t4 33 rfl rfl
theorem kw_754 : (Jvm.Cond.code ({ cls := "HalfMast", name := "lose", desc := "(II)I" } : Jvm.MethodName) prog_1_method_8_code (3 : Nat) (Option.some Jvm.ClassFile.FieldType.int)) ∈ TB := tb_t4 34 rfl rfl
theorem kw_755 : (Jvm.Cond.methodLink "HalfMast" (144 : Nat) ({ cls := "HalfMast", name := "lackMore", desc := "(III)I" } : Jvm.MethodName)) ∈ TB := tb_t4 35 rfl rfl
theorem kw_757 : (Jvm.Cond.instanceMethod ({ cls := "HalfMast", name := "lackMore", desc := "(III)I" } : Jvm.MethodName)) ∈ TB := tb_t4 37 rfl rfl
theorem kw_758 : (Jvm.Cond.code ({ cls := "HalfMast", name := "lackMore", desc := "(III)I" } : Jvm.MethodName) prog_1_method_10_code (4 : Nat) (Option.some Jvm.ClassFile.FieldType.int)) ∈ TB := tb_t4 38 rfl rfl
theorem kw_759 : (Jvm.Cond.methodLink "HalfMast" (148 : Nat) ({ cls := "HalfMast", name := "within", desc := "(III)Z" } : Jvm.MethodName)) ∈ TB := tb_t4 39 rfl rfl
theorem kw_762 : (Jvm.Cond.instanceMethod ({ cls := "HalfMast$History", name := "keep", desc := "(LHalfMast$State;)V" } : Jvm.MethodName)) ∈ TB := tb_t4 42 rfl rfl
theorem kw_763 : (Jvm.Cond.code ({ cls := "HalfMast$History", name := "keep", desc := "(LHalfMast$State;)V" } : Jvm.MethodName) prog_4_method_4_code (3 : Nat) (Option.none : Option Jvm.ClassFile.FieldType)) ∈ TB := tb_t4 43 rfl rfl
theorem kw_764 : (Jvm.Cond.methodLink "HalfMast$History" (25 : Nat) ({ cls := "HalfMast$History", name := "stateAt", desc := "(I)LHalfMast$State;" } : Jvm.MethodName)) ∈ TB := tb_t4 44 rfl rfl
theorem kw_766 : (Jvm.Cond.instanceMethod ({ cls := "HalfMast$History", name := "stateAt", desc := "(I)LHalfMast$State;" } : Jvm.MethodName)) ∈ TB := tb_t4 46 rfl rfl
theorem kw_767 : (Jvm.Cond.code ({ cls := "HalfMast$History", name := "stateAt", desc := "(I)LHalfMast$State;" } : Jvm.MethodName) prog_4_method_3_code (2 : Nat) (Option.some (Jvm.ClassFile.FieldType.object "HalfMast$State"))) ∈ TB := tb_t4 47 rfl rfl
theorem kw_769 : (Jvm.Cond.methodLink "HalfMast$History" (33 : Nat) ({ cls := "java/lang/Math", name := "min", desc := "(II)I" } : Jvm.MethodName)) ∈ TB := tb_t4 49 rfl rfl
theorem kw_772 : (Jvm.Cond.instanceMethod ({ cls := "HalfMast$Course", name := "shift", desc := "(II)V" } : Jvm.MethodName)) ∈ TB := tb_t4 52 rfl rfl
theorem kw_773 : (Jvm.Cond.code ({ cls := "HalfMast$Course", name := "shift", desc := "(II)V" } : Jvm.MethodName) prog_3_method_6_code (3 : Nat) (Option.none : Option Jvm.ClassFile.FieldType)) ∈ TB := tb_t4 53 rfl rfl
theorem kw_774 : (Jvm.Cond.methodLink "HalfMast$Course" (66 : Nat) ({ cls := "HalfMast$Course", name := "lacking", desc := "(I)I" } : Jvm.MethodName)) ∈ TB := tb_t4 54 rfl rfl
theorem kw_776 : (Jvm.Cond.static ({ cls := "HalfMast", name := "between", desc := "(III)I" } : Jvm.MethodName)) ∈ TB := tb_t4 56 rfl rfl
theorem kw_777 : (Jvm.Cond.code ({ cls := "HalfMast", name := "between", desc := "(III)I" } : Jvm.MethodName) prog_1_method_71_code (3 : Nat) (Option.some Jvm.ClassFile.FieldType.int)) ∈ TB := tb_t4 57 rfl rfl
theorem kw_778 : (Jvm.Cond.methodLink "HalfMast" (194 : Nat) ({ cls := "java/lang/Math", name := "min", desc := "(II)I" } : Jvm.MethodName)) ∈ TB := tb_t4 58 rfl rfl
theorem kw_779 : (Jvm.Cond.methodLink "HalfMast" (189 : Nat) ({ cls := "java/lang/Math", name := "max", desc := "(II)I" } : Jvm.MethodName)) ∈ TB := tb_t4 59 rfl rfl
theorem kw_781 : (Jvm.Cond.methodLink "HalfMastLaw" (48 : Nat) ({ cls := "HalfMast", name := "get", desc := "(II)I" } : Jvm.MethodName)) ∈ TB := tb_t4 61 rfl rfl
theorem kw_782 : (Jvm.Cond.instanceMethod ({ cls := "HalfMast", name := "get", desc := "(II)I" } : Jvm.MethodName)) ∈ TB := tb_t4 62 rfl rfl
theorem kw_783 : (Jvm.Cond.selects "HalfMast" ({ cls := "HalfMast", name := "get", desc := "(II)I" } : Jvm.MethodName) ({ cls := "HalfMast", name := "get", desc := "(II)I" } : Jvm.MethodName)) ∈ TB := tb_t4 63 rfl rfl
theorem kw_784 : (Jvm.Cond.code ({ cls := "HalfMast", name := "get", desc := "(II)I" } : Jvm.MethodName) prog_1_method_9_code (3 : Nat) (Option.some Jvm.ClassFile.FieldType.int)) ∈ TB := tb_t4 64 rfl rfl
theorem kw_785 : (Jvm.Cond.methodLink "HalfMastLaw" (52 : Nat) ({ cls := "HalfMast", name := "spare", desc := "(I)I" } : Jvm.MethodName)) ∈ TB := tb_t4 65 rfl rfl
theorem kw_786 : (Jvm.Cond.instanceMethod ({ cls := "HalfMast", name := "spare", desc := "(I)I" } : Jvm.MethodName)) ∈ TB := tb_t4 66 rfl rfl
theorem kw_787 : (Jvm.Cond.selects "HalfMast" ({ cls := "HalfMast", name := "spare", desc := "(I)I" } : Jvm.MethodName) ({ cls := "HalfMast", name := "spare", desc := "(I)I" } : Jvm.MethodName)) ∈ TB := tb_t4 67 rfl rfl
theorem kw_788 : (Jvm.Cond.code ({ cls := "HalfMast", name := "spare", desc := "(I)I" } : Jvm.MethodName) prog_1_method_11_code (3 : Nat) (Option.some Jvm.ClassFile.FieldType.int)) ∈ TB := tb_t4 68 rfl rfl
theorem kw_791 : (Jvm.Cond.instanceMethod ({ cls := "HalfMast$Course", name := "letOff", desc := "(I)V" } : Jvm.MethodName)) ∈ TB := tb_t4 71 rfl rfl
theorem kw_792 : (Jvm.Cond.code ({ cls := "HalfMast$Course", name := "letOff", desc := "(I)V" } : Jvm.MethodName) prog_3_method_7_code (2 : Nat) (Option.none : Option Jvm.ClassFile.FieldType)) ∈ TB := tb_t4 72 rfl rfl
theorem kw_793 : (Jvm.Cond.methodLink "HalfMast$Course" (77 : Nat) ({ cls := "HalfMast$Course", name := "shift", desc := "(II)V" } : Jvm.MethodName)) ∈ TB := tb_t4 73 rfl rfl
theorem kw_794 : (Jvm.Cond.methodLink "HalfMastLaw" (57 : Nat) ({ cls := "HalfMast", name := "feel", desc := "(II)Z" } : Jvm.MethodName)) ∈ TB := tb_t4 74 rfl rfl
theorem kw_795 : (Jvm.Cond.instanceMethod ({ cls := "HalfMast", name := "feel", desc := "(II)Z" } : Jvm.MethodName)) ∈ TB := tb_t4 75 rfl rfl
theorem kw_796 : (Jvm.Cond.selects "HalfMast" ({ cls := "HalfMast", name := "feel", desc := "(II)Z" } : Jvm.MethodName) ({ cls := "HalfMast", name := "feel", desc := "(II)Z" } : Jvm.MethodName)) ∈ TB := tb_t4 76 rfl rfl
theorem kw_797 : (Jvm.Cond.code ({ cls := "HalfMast", name := "feel", desc := "(II)Z" } : Jvm.MethodName) prog_1_method_12_code (3 : Nat) (Option.some Jvm.ClassFile.FieldType.boolean)) ∈ TB := tb_t4 77 rfl rfl
theorem kw_799 : (Jvm.Cond.methodLink "HalfMastLaw" (62 : Nat) ({ cls := "HalfMast", name := "day", desc := "()I" } : Jvm.MethodName)) ∈ TB := tb_t4 79 rfl rfl
theorem kw_800 : (Jvm.Cond.instanceMethod ({ cls := "HalfMast", name := "day", desc := "()I" } : Jvm.MethodName)) ∈ TB := tb_t4 80 rfl rfl
theorem kw_801 : (Jvm.Cond.selects "HalfMast" ({ cls := "HalfMast", name := "day", desc := "()I" } : Jvm.MethodName) ({ cls := "HalfMast", name := "day", desc := "()I" } : Jvm.MethodName)) ∈ TB := tb_t4 81 rfl rfl
theorem kw_802 : (Jvm.Cond.code ({ cls := "HalfMast", name := "day", desc := "()I" } : Jvm.MethodName) prog_1_method_13_code (2 : Nat) (Option.some Jvm.ClassFile.FieldType.int)) ∈ TB := tb_t4 82 rfl rfl
theorem kw_805 : (Jvm.Cond.instanceMethod ({ cls := "HalfMast$Course", name := "passDay", desc := "()Z" } : Jvm.MethodName)) ∈ TB := tb_t4 85 rfl rfl
theorem kw_806 : (Jvm.Cond.code ({ cls := "HalfMast$Course", name := "passDay", desc := "()Z" } : Jvm.MethodName) prog_3_method_8_code (4 : Nat) (Option.some Jvm.ClassFile.FieldType.boolean)) ∈ TB := tb_t4 86 rfl rfl
theorem kw_807 : (Jvm.Cond.methodLink "HalfMast$Course" (84 : Nat) ({ cls := "HalfMast$Course", name := "lackingTomorrow", desc := "(I)I" } : Jvm.MethodName)) ∈ TB := tb_t4 87 rfl rfl
theorem kw_809 : (Jvm.Cond.instanceMethod ({ cls := "HalfMast$Course", name := "lackingTomorrow", desc := "(I)I" } : Jvm.MethodName)) ∈ TB := tb_t4 89 rfl rfl
theorem kw_810 : (Jvm.Cond.code ({ cls := "HalfMast$Course", name := "lackingTomorrow", desc := "(I)I" } : Jvm.MethodName) prog_3_method_9_code (4 : Nat) (Option.some Jvm.ClassFile.FieldType.int)) ∈ TB := tb_t4 90 rfl rfl
theorem kw_813 : (Jvm.Cond.instanceMethod ({ cls := "HalfMast$State", name := "lackingMoreAmongFelt", desc := "(I)I" } : Jvm.MethodName)) ∈ TB := tb_t4 93 rfl rfl
theorem kw_814 : (Jvm.Cond.code ({ cls := "HalfMast$State", name := "lackingMoreAmongFelt", desc := "(I)I" } : Jvm.MethodName) prog_8_method_6_code (6 : Nat) (Option.some Jvm.ClassFile.FieldType.int)) ∈ TB := tb_t4 94 rfl rfl
theorem kw_817 : (Jvm.Cond.instanceMethod ({ cls := "HalfMast$Law", name := "tell", desc := "(IIII)I" } : Jvm.MethodName)) ∈ TB := tb_t4 97 rfl rfl
theorem kw_818 : (Jvm.Cond.code ({ cls := "HalfMast$Law", name := "tell", desc := "(IIII)I" } : Jvm.MethodName) prog_5_method_11_code (8 : Nat) (Option.some Jvm.ClassFile.FieldType.int)) ∈ TB := tb_t4 98 rfl rfl
theorem kw_819 : (Jvm.Cond.methodLink "HalfMast$Law" (104 : Nat) ({ cls := "HalfMast$Law", name := "factBy", desc := "(IIIII)I" } : Jvm.MethodName)) ∈ TB := tb_t4 99 rfl rfl
theorem kw_820 : (Jvm.Cond.static ({ cls := "HalfMast$Law", name := "factBy", desc := "(IIIII)I" } : Jvm.MethodName)) ∈ TB := tb_t4 100 rfl rfl
theorem kw_821 : (Jvm.Cond.code ({ cls := "HalfMast$Law", name := "factBy", desc := "(IIIII)I" } : Jvm.MethodName) prog_5_method_12_code (5 : Nat) (Option.some Jvm.ClassFile.FieldType.int)) ∈ TB := tb_t4 101 rfl rfl
theorem kw_822 : (Jvm.Cond.methodLink "HalfMast$Law" (108 : Nat) ({ cls := "HalfMast$Law", name := "join", desc := "(III)I" } : Jvm.MethodName)) ∈ TB := tb_t4 102 rfl rfl
theorem kw_823 : (Jvm.Cond.static ({ cls := "HalfMast$Law", name := "join", desc := "(III)I" } : Jvm.MethodName)) ∈ TB := tb_t4 103 rfl rfl
theorem kw_824 : (Jvm.Cond.code ({ cls := "HalfMast$Law", name := "join", desc := "(III)I" } : Jvm.MethodName) prog_5_method_13_code (3 : Nat) (Option.some Jvm.ClassFile.FieldType.int)) ∈ TB := tb_t4 104 rfl rfl
theorem kw_825 : (Jvm.Cond.methodLink "HalfMastLaw" (66 : Nat) ({ cls := "HalfMast", name := "undo", desc := "()Z" } : Jvm.MethodName)) ∈ TB := tb_t4 105 rfl rfl
theorem kw_826 : (Jvm.Cond.instanceMethod ({ cls := "HalfMast", name := "undo", desc := "()Z" } : Jvm.MethodName)) ∈ TB := tb_t4 106 rfl rfl
theorem kw_827 : (Jvm.Cond.selects "HalfMast" ({ cls := "HalfMast", name := "undo", desc := "()Z" } : Jvm.MethodName) ({ cls := "HalfMast", name := "undo", desc := "()Z" } : Jvm.MethodName)) ∈ TB := tb_t4 107 rfl rfl
theorem kw_828 : (Jvm.Cond.code ({ cls := "HalfMast", name := "undo", desc := "()Z" } : Jvm.MethodName) prog_1_method_14_code (2 : Nat) (Option.some Jvm.ClassFile.FieldType.boolean)) ∈ TB := tb_t4 108 rfl rfl
theorem kw_831 : (Jvm.Cond.instanceMethod ({ cls := "HalfMast$History", name := "takeLast", desc := "()LHalfMast$State;" } : Jvm.MethodName)) ∈ TB := tb_t4 111 rfl rfl
theorem kw_832 : (Jvm.Cond.code ({ cls := "HalfMast$History", name := "takeLast", desc := "()LHalfMast$State;" } : Jvm.MethodName) prog_4_method_5_code (1 : Nat) (Option.some (Jvm.ClassFile.FieldType.object "HalfMast$State"))) ∈ TB := tb_t4 112 rfl rfl
theorem kw_833 : (Jvm.Cond.methodLink "HalfMastLaw" (71 : Nat) ({ cls := "HalfMast", name := "judged", desc := "(I)I" } : Jvm.MethodName)) ∈ TB := tb_t4 113 rfl rfl
theorem kw_834 : (Jvm.Cond.instanceMethod ({ cls := "HalfMast", name := "judged", desc := "(I)I" } : Jvm.MethodName)) ∈ TB := tb_t4 114 rfl rfl
theorem kw_835 : (Jvm.Cond.selects "HalfMast" ({ cls := "HalfMast", name := "judged", desc := "(I)I" } : Jvm.MethodName) ({ cls := "HalfMast", name := "judged", desc := "(I)I" } : Jvm.MethodName)) ∈ TB := tb_t4 115 rfl rfl
theorem kw_836 : (Jvm.Cond.code ({ cls := "HalfMast", name := "judged", desc := "(I)I" } : Jvm.MethodName) prog_1_method_15_code (6 : Nat) (Option.some Jvm.ClassFile.FieldType.int)) ∈ TB := tb_t4 116 rfl rfl
theorem kw_839 : (Jvm.Cond.instanceMethod ({ cls := "HalfMast$Year", name := "carryOut", desc := "(ILHalfMast$Course;)V" } : Jvm.MethodName)) ∈ TB := tb_t4 119 rfl rfl
theorem kw_840 : (Jvm.Cond.code ({ cls := "HalfMast$Year", name := "carryOut", desc := "(ILHalfMast$Course;)V" } : Jvm.MethodName) prog_12_method_7_code (5 : Nat) (Option.none : Option Jvm.ClassFile.FieldType)) ∈ TB := tb_t4 120 rfl rfl
theorem kw_845 : (Jvm.Cond.methodLink "HalfMastLaw" (75 : Nat) ({ cls := "HalfMast", name := "later", desc := "(I)I" } : Jvm.MethodName)) ∈ TB := tb_t4 125 rfl rfl
theorem kw_846 : (Jvm.Cond.instanceMethod ({ cls := "HalfMast", name := "later", desc := "(I)I" } : Jvm.MethodName)) ∈ TB := tb_t4 126 rfl rfl
theorem kw_847 : (Jvm.Cond.selects "HalfMast" ({ cls := "HalfMast", name := "later", desc := "(I)I" } : Jvm.MethodName) ({ cls := "HalfMast", name := "later", desc := "(I)I" } : Jvm.MethodName)) ∈ TB := tb_t4 127 rfl rfl
theorem kw_848 : (Jvm.Cond.code ({ cls := "HalfMast", name := "later", desc := "(I)I" } : Jvm.MethodName) prog_1_method_16_code (2 : Nat) (Option.some Jvm.ClassFile.FieldType.int)) ∈ TB := tb_t4 128 rfl rfl
theorem kw_851 : (Jvm.Cond.instanceMethod ({ cls := "HalfMast$Course", name := "passDays", desc := "(I)V" } : Jvm.MethodName)) ∈ TB := tb_t4 131 rfl rfl
theorem kw_852 : (Jvm.Cond.code ({ cls := "HalfMast$Course", name := "passDays", desc := "(I)V" } : Jvm.MethodName) prog_3_method_10_code (3 : Nat) (Option.none : Option Jvm.ClassFile.FieldType)) ∈ TB := tb_t4 132 rfl rfl
theorem kw_853 : (Jvm.Cond.methodLink "HalfMast$Course" (103 : Nat) ({ cls := "HalfMast$Course", name := "passDay", desc := "()Z" } : Jvm.MethodName)) ∈ TB := tb_t4 133 rfl rfl
theorem kw_854 : (Jvm.Cond.methodLink "HalfMastLaw" (79 : Nat) ({ cls := "HalfMast", name := "sill", desc := "(I)I" } : Jvm.MethodName)) ∈ TB := tb_t4 134 rfl rfl
theorem kw_855 : (Jvm.Cond.instanceMethod ({ cls := "HalfMast", name := "sill", desc := "(I)I" } : Jvm.MethodName)) ∈ TB := tb_t4 135 rfl rfl
theorem kw_856 : (Jvm.Cond.selects "HalfMast" ({ cls := "HalfMast", name := "sill", desc := "(I)I" } : Jvm.MethodName) ({ cls := "HalfMast", name := "sill", desc := "(I)I" } : Jvm.MethodName)) ∈ TB := tb_t4 136 rfl rfl
theorem kw_857 : (Jvm.Cond.code ({ cls := "HalfMast", name := "sill", desc := "(I)I" } : Jvm.MethodName) prog_1_method_17_code (3 : Nat) (Option.some Jvm.ClassFile.FieldType.int)) ∈ TB := tb_t4 137 rfl rfl
theorem kw_858 : (Jvm.Cond.methodLink "HalfMastLaw" (83 : Nat) ({ cls := "HalfMast", name := "moves", desc := "(I)I" } : Jvm.MethodName)) ∈ TB := tb_t4 138 rfl rfl
theorem kw_859 : (Jvm.Cond.instanceMethod ({ cls := "HalfMast", name := "moves", desc := "(I)I" } : Jvm.MethodName)) ∈ TB := tb_t4 139 rfl rfl
theorem kw_860 : (Jvm.Cond.selects "HalfMast" ({ cls := "HalfMast", name := "moves", desc := "(I)I" } : Jvm.MethodName) ({ cls := "HalfMast", name := "moves", desc := "(I)I" } : Jvm.MethodName)) ∈ TB := tb_t4 140 rfl rfl
theorem kw_861 : (Jvm.Cond.code ({ cls := "HalfMast", name := "moves", desc := "(I)I" } : Jvm.MethodName) prog_1_method_18_code (4 : Nat) (Option.some Jvm.ClassFile.FieldType.int)) ∈ TB := tb_t4 141 rfl rfl
theorem kw_864 : (Jvm.Cond.instanceMethod ({ cls := "HalfMast$Course", name := "wayOfNextDay", desc := "()I" } : Jvm.MethodName)) ∈ TB := tb_t4 144 rfl rfl
theorem kw_865 : (Jvm.Cond.code ({ cls := "HalfMast$Course", name := "wayOfNextDay", desc := "()I" } : Jvm.MethodName) prog_3_method_11_code (2 : Nat) (Option.some Jvm.ClassFile.FieldType.int)) ∈ TB := tb_t4 145 rfl rfl
theorem kw_866 : (Jvm.Cond.methodLink "HalfMast$Course" (107 : Nat) ({ cls := "java/lang/Integer", name := "compare", desc := "(II)I" } : Jvm.MethodName)) ∈ TB := tb_t4 146 rfl rfl
theorem kw_867 : (Jvm.Cond.static ({ cls := "java/lang/Integer", name := "compare", desc := "(II)I" } : Jvm.MethodName)) ∈ TB := tb_t4 147 rfl rfl
theorem kw_868 : (Jvm.Cond.code ({ cls := "java/lang/Integer", name := "compare", desc := "(II)I" } : Jvm.MethodName) prog_21_method_40_code (2 : Nat) (Option.some Jvm.ClassFile.FieldType.int)) ∈ TB := tb_t4 148 rfl rfl
theorem kw_869 : (Jvm.Cond.methodLink "HalfMastLaw" (87 : Nat) ({ cls := "HalfMast", name := "settled", desc := "()I" } : Jvm.MethodName)) ∈ TB := tb_t4 149 rfl rfl
theorem kw_870 : (Jvm.Cond.instanceMethod ({ cls := "HalfMast", name := "settled", desc := "()I" } : Jvm.MethodName)) ∈ TB := tb_t4 150 rfl rfl
theorem kw_871 : (Jvm.Cond.selects "HalfMast" ({ cls := "HalfMast", name := "settled", desc := "()I" } : Jvm.MethodName) ({ cls := "HalfMast", name := "settled", desc := "()I" } : Jvm.MethodName)) ∈ TB := tb_t4 151 rfl rfl
theorem kw_872 : (Jvm.Cond.code ({ cls := "HalfMast", name := "settled", desc := "()I" } : Jvm.MethodName) prog_1_method_19_code (2 : Nat) (Option.some Jvm.ClassFile.FieldType.int)) ∈ TB := tb_t4 152 rfl rfl
theorem kw_873 : (Jvm.Cond.methodLink "HalfMastLaw" (91 : Nat) ({ cls := "HalfMast", name := "lowest", desc := "()I" } : Jvm.MethodName)) ∈ TB := tb_t4 153 rfl rfl
theorem kw_874 : (Jvm.Cond.instanceMethod ({ cls := "HalfMast", name := "lowest", desc := "()I" } : Jvm.MethodName)) ∈ TB := tb_t4 154 rfl rfl
theorem kw_875 : (Jvm.Cond.selects "HalfMast" ({ cls := "HalfMast", name := "lowest", desc := "()I" } : Jvm.MethodName) ({ cls := "HalfMast", name := "lowest", desc := "()I" } : Jvm.MethodName)) ∈ TB := tb_t4 155 rfl rfl
theorem kw_876 : (Jvm.Cond.code ({ cls := "HalfMast", name := "lowest", desc := "()I" } : Jvm.MethodName) prog_1_method_20_code (4 : Nat) (Option.some Jvm.ClassFile.FieldType.int)) ∈ TB := tb_t4 156 rfl rfl
theorem kw_877 : (Jvm.Cond.methodLink "HalfMastLaw" (159 : Nat) ({ cls := "HalfMast", name := "rises", desc := "(I)I" } : Jvm.MethodName)) ∈ TB := tb_t4 157 rfl rfl
theorem kw_878 : (Jvm.Cond.instanceMethod ({ cls := "HalfMast", name := "rises", desc := "(I)I" } : Jvm.MethodName)) ∈ TB := tb_t4 158 rfl rfl
theorem kw_879 : (Jvm.Cond.selects "HalfMast" ({ cls := "HalfMast", name := "rises", desc := "(I)I" } : Jvm.MethodName) ({ cls := "HalfMast", name := "rises", desc := "(I)I" } : Jvm.MethodName)) ∈ TB := tb_t4 159 rfl rfl
theorem kw_880 : (Jvm.Cond.code ({ cls := "HalfMast", name := "rises", desc := "(I)I" } : Jvm.MethodName) prog_1_method_21_code (4 : Nat) (Option.some Jvm.ClassFile.FieldType.int)) ∈ TB := tb_t4 160 rfl rfl
theorem kw_881 : (Jvm.Cond.methodLink "HalfMastLaw" (163 : Nat) ({ cls := "HalfMast", name := "turn", desc := "()I" } : Jvm.MethodName)) ∈ TB := tb_t4 161 rfl rfl
theorem kw_882 : (Jvm.Cond.instanceMethod ({ cls := "HalfMast", name := "turn", desc := "()I" } : Jvm.MethodName)) ∈ TB := tb_t4 162 rfl rfl
theorem kw_883 : (Jvm.Cond.selects "HalfMast" ({ cls := "HalfMast", name := "turn", desc := "()I" } : Jvm.MethodName) ({ cls := "HalfMast", name := "turn", desc := "()I" } : Jvm.MethodName)) ∈ TB := tb_t4 163 rfl rfl
theorem kw_884 : (Jvm.Cond.code ({ cls := "HalfMast", name := "turn", desc := "()I" } : Jvm.MethodName) prog_1_method_22_code (4 : Nat) (Option.some Jvm.ClassFile.FieldType.int)) ∈ TB := tb_t4 164 rfl rfl
theorem kw_885 : (Jvm.Cond.methodLink "HalfMastLaw" (167 : Nat) ({ cls := "HalfMast", name := "range", desc := "(I)I" } : Jvm.MethodName)) ∈ TB := tb_t4 165 rfl rfl
theorem kw_886 : (Jvm.Cond.instanceMethod ({ cls := "HalfMast", name := "range", desc := "(I)I" } : Jvm.MethodName)) ∈ TB := tb_t4 166 rfl rfl
theorem kw_887 : (Jvm.Cond.selects "HalfMast" ({ cls := "HalfMast", name := "range", desc := "(I)I" } : Jvm.MethodName) ({ cls := "HalfMast", name := "range", desc := "(I)I" } : Jvm.MethodName)) ∈ TB := tb_t4 167 rfl rfl
theorem kw_888 : (Jvm.Cond.code ({ cls := "HalfMast", name := "range", desc := "(I)I" } : Jvm.MethodName) prog_1_method_23_code (5 : Nat) (Option.some Jvm.ClassFile.FieldType.int)) ∈ TB := tb_t4 168 rfl rfl
theorem kw_889 : (Jvm.Cond.methodLink "HalfMastLaw" (171 : Nat) ({ cls := "HalfMast", name := "faith", desc := "(I)I" } : Jvm.MethodName)) ∈ TB := tb_t4 169 rfl rfl
theorem kw_890 : (Jvm.Cond.instanceMethod ({ cls := "HalfMast", name := "faith", desc := "(I)I" } : Jvm.MethodName)) ∈ TB := tb_t4 170 rfl rfl
theorem kw_891 : (Jvm.Cond.selects "HalfMast" ({ cls := "HalfMast", name := "faith", desc := "(I)I" } : Jvm.MethodName) ({ cls := "HalfMast", name := "faith", desc := "(I)I" } : Jvm.MethodName)) ∈ TB := tb_t4 171 rfl rfl
theorem kw_892 : (Jvm.Cond.code ({ cls := "HalfMast", name := "faith", desc := "(I)I" } : Jvm.MethodName) prog_1_method_24_code (5 : Nat) (Option.some Jvm.ClassFile.FieldType.int)) ∈ TB := tb_t4 172 rfl rfl
theorem kw_893 : (Jvm.Cond.methodLink "HalfMastLaw" (175 : Nat) ({ cls := "HalfMast", name := "blame", desc := "(I)I" } : Jvm.MethodName)) ∈ TB := tb_t4 173 rfl rfl
theorem kw_894 : (Jvm.Cond.instanceMethod ({ cls := "HalfMast", name := "blame", desc := "(I)I" } : Jvm.MethodName)) ∈ TB := tb_t4 174 rfl rfl
theorem kw_895 : (Jvm.Cond.selects "HalfMast" ({ cls := "HalfMast", name := "blame", desc := "(I)I" } : Jvm.MethodName) ({ cls := "HalfMast", name := "blame", desc := "(I)I" } : Jvm.MethodName)) ∈ TB := tb_t4 175 rfl rfl
theorem kw_896 : (Jvm.Cond.code ({ cls := "HalfMast", name := "blame", desc := "(I)I" } : Jvm.MethodName) prog_1_method_25_code (5 : Nat) (Option.some Jvm.ClassFile.FieldType.int)) ∈ TB := tb_t4 176 rfl rfl
theorem kw_897 : (Jvm.Cond.methodLink "HalfMastLaw" (95 : Nat) ({ cls := "HalfMast", name := "spared", desc := "(I)I" } : Jvm.MethodName)) ∈ TB := tb_t4 177 rfl rfl
theorem kw_898 : (Jvm.Cond.instanceMethod ({ cls := "HalfMast", name := "spared", desc := "(I)I" } : Jvm.MethodName)) ∈ TB := tb_t4 178 rfl rfl
theorem kw_899 : (Jvm.Cond.selects "HalfMast" ({ cls := "HalfMast", name := "spared", desc := "(I)I" } : Jvm.MethodName) ({ cls := "HalfMast", name := "spared", desc := "(I)I" } : Jvm.MethodName)) ∈ TB := tb_t4 179 rfl rfl
theorem kw_900 : (Jvm.Cond.code ({ cls := "HalfMast", name := "spared", desc := "(I)I" } : Jvm.MethodName) prog_1_method_26_code (5 : Nat) (Option.some Jvm.ClassFile.FieldType.int)) ∈ TB := tb_t4 180 rfl rfl
theorem kw_901 : (Jvm.Cond.methodLink "HalfMast" (200 : Nat) ({ cls := "java/lang/Integer", name := "bitCount", desc := "(I)I" } : Jvm.MethodName)) ∈ TB := tb_t4 181 rfl rfl
theorem kw_902 : (Jvm.Cond.static ({ cls := "java/lang/Integer", name := "bitCount", desc := "(I)I" } : Jvm.MethodName)) ∈ TB := tb_t4 182 rfl rfl
theorem kw_903 : (Jvm.Cond.code ({ cls := "java/lang/Integer", name := "bitCount", desc := "(I)I" } : Jvm.MethodName) prog_21_method_49_code (1 : Nat) (Option.some Jvm.ClassFile.FieldType.int)) ∈ TB := tb_t4 183 rfl rfl
theorem kw_904 : (Jvm.Cond.constant "java/lang/Integer" (265 : Nat) (1431655765 : Int32)) ∈ TB := tb_t4 184 rfl rfl
theorem kw_905 : (Jvm.Cond.constant "java/lang/Integer" (266 : Nat) (858993459 : Int32)) ∈ TB := tb_t4 185 rfl rfl
theorem kw_906 : (Jvm.Cond.constant "java/lang/Integer" (267 : Nat) (252645135 : Int32)) ∈ TB := tb_t4 186 rfl rfl
theorem kw_907 : (Jvm.Cond.methodLink "HalfMast" (205 : Nat) ({ cls := "HalfMast", name := "flagWithout", desc := "(I)I" } : Jvm.MethodName)) ∈ TB := tb_t4 187 rfl rfl
theorem kw_909 : (Jvm.Cond.instanceMethod ({ cls := "HalfMast", name := "flagWithout", desc := "(I)I" } : Jvm.MethodName)) ∈ TB := tb_t4 189 rfl rfl
theorem kw_910 : (Jvm.Cond.code ({ cls := "HalfMast", name := "flagWithout", desc := "(I)I" } : Jvm.MethodName) prog_1_method_27_code (4 : Nat) (Option.some Jvm.ClassFile.FieldType.int)) ∈ TB := tb_t4 190 rfl rfl
theorem kw_911 : (Jvm.Cond.methodLink "HalfMast" (208 : Nat) ({ cls := "HalfMast", name := "holds", desc := "(II)Z" } : Jvm.MethodName)) ∈ TB := tb_t4 191 rfl rfl
theorem kw_914 : (Jvm.Cond.instanceMethod ({ cls := "HalfMast$Town", name := "flagBy", desc := "(I)I" } : Jvm.MethodName)) ∈ TB := tb_t4 194 rfl rfl
theorem kw_915 : (Jvm.Cond.code ({ cls := "HalfMast$Town", name := "flagBy", desc := "(I)I" } : Jvm.MethodName) prog_10_method_20_code (2 : Nat) (Option.some Jvm.ClassFile.FieldType.int)) ∈ TB := tb_t4 195 rfl rfl
theorem kw_916 : (Jvm.Cond.methodLink "HalfMast$Town" (183 : Nat) ({ cls := "HalfMast$Town", name := "flagUnder", desc := "(III)I" } : Jvm.MethodName)) ∈ TB := tb_t4 196 rfl rfl
theorem kw_917 : (Jvm.Cond.methodLink "HalfMastLaw" (99 : Nat) ({ cls := "HalfMast", name := "least", desc := "(II)I" } : Jvm.MethodName)) ∈ TB := tb_t4 197 rfl rfl
theorem kw_918 : (Jvm.Cond.instanceMethod ({ cls := "HalfMast", name := "least", desc := "(II)I" } : Jvm.MethodName)) ∈ TB := tb_t4 198 rfl rfl
theorem kw_919 : (Jvm.Cond.selects "HalfMast" ({ cls := "HalfMast", name := "least", desc := "(II)I" } : Jvm.MethodName) ({ cls := "HalfMast", name := "least", desc := "(II)I" } : Jvm.MethodName)) ∈ TB := tb_t4 199 rfl rfl
theorem kw_920 : (Jvm.Cond.code ({ cls := "HalfMast", name := "least", desc := "(II)I" } : Jvm.MethodName) prog_1_method_28_code (6 : Nat) (Option.some Jvm.ClassFile.FieldType.int)) ∈ TB := tb_t4 200 rfl rfl
theorem kw_921 : (Jvm.Cond.methodLink "HalfMast" (215 : Nat) ({ cls := "HalfMast", name := "firstToReach", desc := "(II)I" } : Jvm.MethodName)) ∈ TB := tb_t4 201 rfl rfl
theorem kw_923 : (Jvm.Cond.instanceMethod ({ cls := "HalfMast", name := "firstToReach", desc := "(II)I" } : Jvm.MethodName)) ∈ TB := tb_t4 203 rfl rfl
theorem kw_924 : (Jvm.Cond.code ({ cls := "HalfMast", name := "firstToReach", desc := "(II)I" } : Jvm.MethodName) prog_1_method_29_code (5 : Nat) (Option.some Jvm.ClassFile.FieldType.int)) ∈ TB := tb_t4 204 rfl rfl
theorem kw_925 : (Jvm.Cond.methodLink "HalfMast" (218 : Nat) ({ cls := "HalfMast", name := "flagIfLacking", desc := "(II)I" } : Jvm.MethodName)) ∈ TB := tb_t4 205 rfl rfl
theorem kw_927 : (Jvm.Cond.instanceMethod ({ cls := "HalfMast", name := "flagIfLacking", desc := "(II)I" } : Jvm.MethodName)) ∈ TB := tb_t4 207 rfl rfl
theorem kw_928 : (Jvm.Cond.code ({ cls := "HalfMast", name := "flagIfLacking", desc := "(II)I" } : Jvm.MethodName) prog_1_method_30_code (4 : Nat) (Option.some Jvm.ClassFile.FieldType.int)) ∈ TB := tb_t4 208 rfl rfl
theorem kw_930 : (Jvm.Cond.methodLink "HalfMastLaw" (103 : Nat) ({ cls := "HalfMast", name := "cost", desc := "(I)I" } : Jvm.MethodName)) ∈ TB := tb_t4 210 rfl rfl
theorem kw_931 : (Jvm.Cond.instanceMethod ({ cls := "HalfMast", name := "cost", desc := "(I)I" } : Jvm.MethodName)) ∈ TB := tb_t4 211 rfl rfl
theorem kw_932 : (Jvm.Cond.selects "HalfMast" ({ cls := "HalfMast", name := "cost", desc := "(I)I" } : Jvm.MethodName) ({ cls := "HalfMast", name := "cost", desc := "(I)I" } : Jvm.MethodName)) ∈ TB := tb_t4 212 rfl rfl
theorem kw_933 : (Jvm.Cond.code ({ cls := "HalfMast", name := "cost", desc := "(I)I" } : Jvm.MethodName) prog_1_method_31_code (3 : Nat) (Option.some Jvm.ClassFile.FieldType.int)) ∈ TB := tb_t4 213 rfl rfl
theorem kw_934 : (Jvm.Cond.methodLink "HalfMastLaw" (107 : Nat) ({ cls := "HalfMast", name := "heavy", desc := "()I" } : Jvm.MethodName)) ∈ TB := tb_t4 214 rfl rfl
theorem kw_935 : (Jvm.Cond.instanceMethod ({ cls := "HalfMast", name := "heavy", desc := "()I" } : Jvm.MethodName)) ∈ TB := tb_t4 215 rfl rfl
theorem kw_936 : (Jvm.Cond.selects "HalfMast" ({ cls := "HalfMast", name := "heavy", desc := "()I" } : Jvm.MethodName) ({ cls := "HalfMast", name := "heavy", desc := "()I" } : Jvm.MethodName)) ∈ TB := tb_t4 216 rfl rfl
theorem kw_937 : (Jvm.Cond.code ({ cls := "HalfMast", name := "heavy", desc := "()I" } : Jvm.MethodName) prog_1_method_32_code (5 : Nat) (Option.some Jvm.ClassFile.FieldType.int)) ∈ TB := tb_t4 217 rfl rfl
theorem kw_938 : (Jvm.Cond.methodLink "HalfMastLaw" (183 : Nat) ({ cls := "HalfMast", name := "pair", desc := "()I" } : Jvm.MethodName)) ∈ TB := tb_t4 218 rfl rfl
theorem kw_939 : (Jvm.Cond.instanceMethod ({ cls := "HalfMast", name := "pair", desc := "()I" } : Jvm.MethodName)) ∈ TB := tb_t4 219 rfl rfl
theorem kw_940 : (Jvm.Cond.selects "HalfMast" ({ cls := "HalfMast", name := "pair", desc := "()I" } : Jvm.MethodName) ({ cls := "HalfMast", name := "pair", desc := "()I" } : Jvm.MethodName)) ∈ TB := tb_t4 220 rfl rfl
theorem kw_941 : (Jvm.Cond.code ({ cls := "HalfMast", name := "pair", desc := "()I" } : Jvm.MethodName) prog_1_method_33_code (6 : Nat) (Option.some Jvm.ClassFile.FieldType.int)) ∈ TB := tb_t4 221 rfl rfl
theorem kw_942 : (Jvm.Cond.methodLink "HalfMastLaw" (187 : Nat) ({ cls := "HalfMast", name := "even", desc := "()I" } : Jvm.MethodName)) ∈ TB := tb_t4 222 rfl rfl
theorem kw_943 : (Jvm.Cond.instanceMethod ({ cls := "HalfMast", name := "even", desc := "()I" } : Jvm.MethodName)) ∈ TB := tb_t4 223 rfl rfl
theorem kw_944 : (Jvm.Cond.selects "HalfMast" ({ cls := "HalfMast", name := "even", desc := "()I" } : Jvm.MethodName) ({ cls := "HalfMast", name := "even", desc := "()I" } : Jvm.MethodName)) ∈ TB := tb_t4 224 rfl rfl
theorem kw_945 : (Jvm.Cond.code ({ cls := "HalfMast", name := "even", desc := "()I" } : Jvm.MethodName) prog_1_method_34_code (3 : Nat) (Option.some Jvm.ClassFile.FieldType.int)) ∈ TB := tb_t4 225 rfl rfl
theorem kw_946 : (Jvm.Cond.methodLink "HalfMastLaw" (111 : Nat) ({ cls := "HalfMast", name := "see", desc := "(II)Z" } : Jvm.MethodName)) ∈ TB := tb_t4 226 rfl rfl
theorem kw_947 : (Jvm.Cond.instanceMethod ({ cls := "HalfMast", name := "see", desc := "(II)Z" } : Jvm.MethodName)) ∈ TB := tb_t4 227 rfl rfl
theorem kw_948 : (Jvm.Cond.selects "HalfMast" ({ cls := "HalfMast", name := "see", desc := "(II)Z" } : Jvm.MethodName) ({ cls := "HalfMast", name := "see", desc := "(II)Z" } : Jvm.MethodName)) ∈ TB := tb_t4 228 rfl rfl
theorem kw_949 : (Jvm.Cond.code ({ cls := "HalfMast", name := "see", desc := "(II)Z" } : Jvm.MethodName) prog_1_method_35_code (3 : Nat) (Option.some Jvm.ClassFile.FieldType.boolean)) ∈ TB := tb_t4 229 rfl rfl
theorem kw_952 : (Jvm.Cond.instanceMethod ({ cls := "HalfMast$Notes", name := "add", desc := "(II)Z" } : Jvm.MethodName)) ∈ TB := tb_t4 232 rfl rfl
theorem kw_953 : (Jvm.Cond.code ({ cls := "HalfMast$Notes", name := "add", desc := "(II)Z" } : Jvm.MethodName) prog_7_method_4_code (3 : Nat) (Option.some Jvm.ClassFile.FieldType.boolean)) ∈ TB := tb_t4 233 rfl rfl
theorem kw_956 : (Jvm.Cond.methodLink "HalfMastLaw" (115 : Nat) ({ cls := "HalfMast", name := "ways", desc := "(I)I" } : Jvm.MethodName)) ∈ TB := tb_t4 236 rfl rfl
theorem kw_957 : (Jvm.Cond.instanceMethod ({ cls := "HalfMast", name := "ways", desc := "(I)I" } : Jvm.MethodName)) ∈ TB := tb_t4 237 rfl rfl
theorem kw_958 : (Jvm.Cond.selects "HalfMast" ({ cls := "HalfMast", name := "ways", desc := "(I)I" } : Jvm.MethodName) ({ cls := "HalfMast", name := "ways", desc := "(I)I" } : Jvm.MethodName)) ∈ TB := tb_t4 238 rfl rfl
theorem kw_959 : (Jvm.Cond.code ({ cls := "HalfMast", name := "ways", desc := "(I)I" } : Jvm.MethodName) prog_1_method_36_code (8 : Nat) (Option.some Jvm.ClassFile.FieldType.int)) ∈ TB := tb_t4 239 rfl rfl
theorem kw_960 : (Jvm.Cond.methodLink "HalfMast" (231 : Nat) ({ cls := "HalfMast", name := "startWay", desc := "(II)V" } : Jvm.MethodName)) ∈ TB := tb_t5 0 rfl rfl
theorem kw_962 : (Jvm.Cond.instanceMethod ({ cls := "HalfMast", name := "startWay", desc := "(II)V" } : Jvm.MethodName)) ∈ TB := tb_t5 2 rfl rfl
theorem kw_963 : (Jvm.Cond.code ({ cls := "HalfMast", name := "startWay", desc := "(II)V" } : Jvm.MethodName) prog_1_method_37_code (3 : Nat) (Option.none : Option Jvm.ClassFile.FieldType)) ∈ TB := tb_t5 3 rfl rfl
theorem kw_964 : (Jvm.Cond.methodLink "HalfMast" (234 : Nat) ({ cls := "HalfMast", name := "bearsOut", desc := "(LHalfMast$Notes;)Z" } : Jvm.MethodName)) ∈ TB := tb_t5 4 rfl rfl
theorem kw_966 : (Jvm.Cond.instanceMethod ({ cls := "HalfMast", name := "bearsOut", desc := "(LHalfMast$Notes;)Z" } : Jvm.MethodName)) ∈ TB := tb_t5 6 rfl rfl
theorem kw_967 : (Jvm.Cond.code ({ cls := "HalfMast", name := "bearsOut", desc := "(LHalfMast$Notes;)Z" } : Jvm.MethodName) prog_1_method_38_code (4 : Nat) (Option.some Jvm.ClassFile.FieldType.boolean)) ∈ TB := tb_t5 7 rfl rfl
theorem kw_970 : (Jvm.Cond.instanceMethod ({ cls := "HalfMast$Notes", name := "lastDay", desc := "()I" } : Jvm.MethodName)) ∈ TB := tb_t5 10 rfl rfl
theorem kw_971 : (Jvm.Cond.code ({ cls := "HalfMast$Notes", name := "lastDay", desc := "()I" } : Jvm.MethodName) prog_7_method_6_code (3 : Nat) (Option.some Jvm.ClassFile.FieldType.int)) ∈ TB := tb_t5 11 rfl rfl
theorem kw_973 : (Jvm.Cond.methodLink "HalfMast$Notes" (40 : Nat) ({ cls := "java/lang/Math", name := "max", desc := "(II)I" } : Jvm.MethodName)) ∈ TB := tb_t5 13 rfl rfl
theorem kw_976 : (Jvm.Cond.instanceMethod ({ cls := "HalfMast$Notes", name := "agree", desc := "(II)Z" } : Jvm.MethodName)) ∈ TB := tb_t5 16 rfl rfl
theorem kw_977 : (Jvm.Cond.code ({ cls := "HalfMast$Notes", name := "agree", desc := "(II)Z" } : Jvm.MethodName) prog_7_method_5_code (4 : Nat) (Option.some Jvm.ClassFile.FieldType.boolean)) ∈ TB := tb_t5 17 rfl rfl
theorem kw_978 : (Jvm.Cond.methodLink "HalfMastLaw" (119 : Nat) ({ cls := "HalfMast", name := "look", desc := "()I" } : Jvm.MethodName)) ∈ TB := tb_t5 18 rfl rfl
theorem kw_979 : (Jvm.Cond.instanceMethod ({ cls := "HalfMast", name := "look", desc := "()I" } : Jvm.MethodName)) ∈ TB := tb_t5 19 rfl rfl
theorem kw_980 : (Jvm.Cond.selects "HalfMast" ({ cls := "HalfMast", name := "look", desc := "()I" } : Jvm.MethodName) ({ cls := "HalfMast", name := "look", desc := "()I" } : Jvm.MethodName)) ∈ TB := tb_t5 20 rfl rfl
theorem kw_981 : (Jvm.Cond.code ({ cls := "HalfMast", name := "look", desc := "()I" } : Jvm.MethodName) prog_1_method_39_code (6 : Nat) (Option.some Jvm.ClassFile.FieldType.int)) ∈ TB := tb_t5 21 rfl rfl
theorem kw_982 : (Jvm.Cond.methodLink "HalfMast" (244 : Nat) ({ cls := "java/util/Arrays", name := "fill", desc := "([II)V" } : Jvm.MethodName)) ∈ TB := tb_t5 22 rfl rfl
theorem kw_983 : (Jvm.Cond.methodLink "HalfMast" (250 : Nat) ({ cls := "HalfMast", name := "countStanding", desc := "()V" } : Jvm.MethodName)) ∈ TB := tb_t5 23 rfl rfl
theorem kw_985 : (Jvm.Cond.instanceMethod ({ cls := "HalfMast", name := "countStanding", desc := "()V" } : Jvm.MethodName)) ∈ TB := tb_t5 25 rfl rfl
theorem kw_986 : (Jvm.Cond.code ({ cls := "HalfMast", name := "countStanding", desc := "()V" } : Jvm.MethodName) prog_1_method_40_code (3 : Nat) (Option.none : Option Jvm.ClassFile.FieldType)) ∈ TB := tb_t5 26 rfl rfl
theorem kw_987 : (Jvm.Cond.methodLink "HalfMast" (256 : Nat) ({ cls := "HalfMast", name := "put", desc := "([III)V" } : Jvm.MethodName)) ∈ TB := tb_t5 27 rfl rfl
theorem kw_988 : (Jvm.Cond.methodLink "HalfMast" (253 : Nat) ({ cls := "HalfMast", name := "mostAlike", desc := "(I)I" } : Jvm.MethodName)) ∈ TB := tb_t5 28 rfl rfl
theorem kw_990 : (Jvm.Cond.instanceMethod ({ cls := "HalfMast", name := "mostAlike", desc := "(I)I" } : Jvm.MethodName)) ∈ TB := tb_t5 30 rfl rfl
theorem kw_991 : (Jvm.Cond.code ({ cls := "HalfMast", name := "mostAlike", desc := "(I)I" } : Jvm.MethodName) prog_1_method_41_code (4 : Nat) (Option.some Jvm.ClassFile.FieldType.int)) ∈ TB := tb_t5 31 rfl rfl
theorem kw_992 : (Jvm.Cond.methodLink "HalfMastLaw" (123 : Nat) ({ cls := "HalfMast", name := "measure", desc := "(II)Z" } : Jvm.MethodName)) ∈ TB := tb_t5 32 rfl rfl
theorem kw_993 : (Jvm.Cond.instanceMethod ({ cls := "HalfMast", name := "measure", desc := "(II)Z" } : Jvm.MethodName)) ∈ TB := tb_t5 33 rfl rfl
theorem kw_994 : (Jvm.Cond.selects "HalfMast" ({ cls := "HalfMast", name := "measure", desc := "(II)Z" } : Jvm.MethodName) ({ cls := "HalfMast", name := "measure", desc := "(II)Z" } : Jvm.MethodName)) ∈ TB := tb_t5 34 rfl rfl
theorem kw_995 : (Jvm.Cond.code ({ cls := "HalfMast", name := "measure", desc := "(II)Z" } : Jvm.MethodName) prog_1_method_42_code (3 : Nat) (Option.some Jvm.ClassFile.FieldType.boolean)) ∈ TB := tb_t5 35 rfl rfl
theorem kw_996 : (Jvm.Cond.methodLink "HalfMastLaw" (127 : Nat) ({ cls := "HalfMast", name := "rules", desc := "(I)I" } : Jvm.MethodName)) ∈ TB := tb_t5 36 rfl rfl
theorem kw_997 : (Jvm.Cond.instanceMethod ({ cls := "HalfMast", name := "rules", desc := "(I)I" } : Jvm.MethodName)) ∈ TB := tb_t5 37 rfl rfl
theorem kw_998 : (Jvm.Cond.selects "HalfMast" ({ cls := "HalfMast", name := "rules", desc := "(I)I" } : Jvm.MethodName) ({ cls := "HalfMast", name := "rules", desc := "(I)I" } : Jvm.MethodName)) ∈ TB := tb_t5 38 rfl rfl
theorem kw_999 : (Jvm.Cond.code ({ cls := "HalfMast", name := "rules", desc := "(I)I" } : Jvm.MethodName) prog_1_method_43_code (7 : Nat) (Option.some Jvm.ClassFile.FieldType.int)) ∈ TB := tb_t5 39 rfl rfl
theorem kw_1001 : (Jvm.Cond.methodLink "HalfMastLaw" (131 : Nat) ({ cls := "HalfMast", name := "reach", desc := "(I)I" } : Jvm.MethodName)) ∈ TB := tb_t5 41 rfl rfl
theorem kw_1002 : (Jvm.Cond.instanceMethod ({ cls := "HalfMast", name := "reach", desc := "(I)I" } : Jvm.MethodName)) ∈ TB := tb_t5 42 rfl rfl
theorem kw_1003 : (Jvm.Cond.selects "HalfMast" ({ cls := "HalfMast", name := "reach", desc := "(I)I" } : Jvm.MethodName) ({ cls := "HalfMast", name := "reach", desc := "(I)I" } : Jvm.MethodName)) ∈ TB := tb_t5 43 rfl rfl
theorem kw_1004 : (Jvm.Cond.code ({ cls := "HalfMast", name := "reach", desc := "(I)I" } : Jvm.MethodName) prog_1_method_44_code (2 : Nat) (Option.some Jvm.ClassFile.FieldType.int)) ∈ TB := tb_t5 44 rfl rfl
theorem kw_1007 : (Jvm.Cond.instanceMethod ({ cls := "HalfMast$State", name := "feltFrom", desc := "(I)I" } : Jvm.MethodName)) ∈ TB := tb_t5 47 rfl rfl
theorem kw_1008 : (Jvm.Cond.code ({ cls := "HalfMast$State", name := "feltFrom", desc := "(I)I" } : Jvm.MethodName) prog_8_method_8_code (4 : Nat) (Option.some Jvm.ClassFile.FieldType.int)) ∈ TB := tb_t5 48 rfl rfl
theorem kw_1009 : (Jvm.Cond.methodLink "HalfMast$State" (50 : Nat) ({ cls := "HalfMast$State", name := "feltBy", desc := "(I)I" } : Jvm.MethodName)) ∈ TB := tb_t5 49 rfl rfl
theorem kw_1011 : (Jvm.Cond.instanceMethod ({ cls := "HalfMast$State", name := "feltBy", desc := "(I)I" } : Jvm.MethodName)) ∈ TB := tb_t5 51 rfl rfl
theorem kw_1012 : (Jvm.Cond.code ({ cls := "HalfMast$State", name := "feltBy", desc := "(I)I" } : Jvm.MethodName) prog_8_method_7_code (4 : Nat) (Option.some Jvm.ClassFile.FieldType.int)) ∈ TB := tb_t5 52 rfl rfl
theorem kw_1013 : (Jvm.Cond.methodLink "HalfMastLaw" (135 : Nat) ({ cls := "HalfMast", name := "through", desc := "(II)I" } : Jvm.MethodName)) ∈ TB := tb_t5 53 rfl rfl
theorem kw_1014 : (Jvm.Cond.instanceMethod ({ cls := "HalfMast", name := "through", desc := "(II)I" } : Jvm.MethodName)) ∈ TB := tb_t5 54 rfl rfl
theorem kw_1015 : (Jvm.Cond.selects "HalfMast" ({ cls := "HalfMast", name := "through", desc := "(II)I" } : Jvm.MethodName) ({ cls := "HalfMast", name := "through", desc := "(II)I" } : Jvm.MethodName)) ∈ TB := tb_t5 55 rfl rfl
theorem kw_1016 : (Jvm.Cond.code ({ cls := "HalfMast", name := "through", desc := "(II)I" } : Jvm.MethodName) prog_1_method_45_code (5 : Nat) (Option.some Jvm.ClassFile.FieldType.int)) ∈ TB := tb_t5 56 rfl rfl
theorem kw_1018 : (Jvm.Cond.methodLink "HalfMastLaw" (139 : Nat) ({ cls := "HalfMast", name := "groups", desc := "()I" } : Jvm.MethodName)) ∈ TB := tb_t5 58 rfl rfl
theorem kw_1019 : (Jvm.Cond.instanceMethod ({ cls := "HalfMast", name := "groups", desc := "()I" } : Jvm.MethodName)) ∈ TB := tb_t5 59 rfl rfl
theorem kw_1020 : (Jvm.Cond.selects "HalfMast" ({ cls := "HalfMast", name := "groups", desc := "()I" } : Jvm.MethodName) ({ cls := "HalfMast", name := "groups", desc := "()I" } : Jvm.MethodName)) ∈ TB := tb_t5 60 rfl rfl
theorem kw_1021 : (Jvm.Cond.code ({ cls := "HalfMast", name := "groups", desc := "()I" } : Jvm.MethodName) prog_1_method_46_code (3 : Nat) (Option.some Jvm.ClassFile.FieldType.int)) ∈ TB := tb_t5 61 rfl rfl
theorem kw_1022 : (Jvm.Cond.methodLink "HalfMast" (270 : Nat) ({ cls := "HalfMast", name := "isFirstOfGroup", desc := "(I)Z" } : Jvm.MethodName)) ∈ TB := tb_t5 62 rfl rfl
theorem kw_1024 : (Jvm.Cond.instanceMethod ({ cls := "HalfMast", name := "isFirstOfGroup", desc := "(I)Z" } : Jvm.MethodName)) ∈ TB := tb_t5 64 rfl rfl
theorem kw_1025 : (Jvm.Cond.code ({ cls := "HalfMast", name := "isFirstOfGroup", desc := "(I)Z" } : Jvm.MethodName) prog_1_method_47_code (4 : Nat) (Option.some Jvm.ClassFile.FieldType.boolean)) ∈ TB := tb_t5 65 rfl rfl
theorem kw_1026 : (Jvm.Cond.methodLink "HalfMastLaw" (143 : Nat) ({ cls := "HalfMast", name := "deaf", desc := "()I" } : Jvm.MethodName)) ∈ TB := tb_t5 66 rfl rfl
theorem kw_1027 : (Jvm.Cond.instanceMethod ({ cls := "HalfMast", name := "deaf", desc := "()I" } : Jvm.MethodName)) ∈ TB := tb_t5 67 rfl rfl
theorem kw_1028 : (Jvm.Cond.selects "HalfMast" ({ cls := "HalfMast", name := "deaf", desc := "()I" } : Jvm.MethodName) ({ cls := "HalfMast", name := "deaf", desc := "()I" } : Jvm.MethodName)) ∈ TB := tb_t5 68 rfl rfl
theorem kw_1029 : (Jvm.Cond.code ({ cls := "HalfMast", name := "deaf", desc := "()I" } : Jvm.MethodName) prog_1_method_48_code (3 : Nat) (Option.some Jvm.ClassFile.FieldType.int)) ∈ TB := tb_t5 69 rfl rfl
theorem kw_1030 : (Jvm.Cond.methodLink "HalfMastLaw" (179 : Nat) ({ cls := "HalfMast", name := "hearts", desc := "(I)I" } : Jvm.MethodName)) ∈ TB := tb_t5 70 rfl rfl
theorem kw_1031 : (Jvm.Cond.instanceMethod ({ cls := "HalfMast", name := "hearts", desc := "(I)I" } : Jvm.MethodName)) ∈ TB := tb_t5 71 rfl rfl
theorem kw_1032 : (Jvm.Cond.selects "HalfMast" ({ cls := "HalfMast", name := "hearts", desc := "(I)I" } : Jvm.MethodName) ({ cls := "HalfMast", name := "hearts", desc := "(I)I" } : Jvm.MethodName)) ∈ TB := tb_t5 72 rfl rfl
theorem kw_1033 : (Jvm.Cond.code ({ cls := "HalfMast", name := "hearts", desc := "(I)I" } : Jvm.MethodName) prog_1_method_49_code (4 : Nat) (Option.some Jvm.ClassFile.FieldType.int)) ∈ TB := tb_t5 73 rfl rfl
theorem kw_1035 : (Jvm.Cond.methodLink "HalfMastLaw" (147 : Nat) ({ cls := "HalfMast", name := "alike", desc := "()I" } : Jvm.MethodName)) ∈ TB := tb_t5 75 rfl rfl
theorem kw_1036 : (Jvm.Cond.instanceMethod ({ cls := "HalfMast", name := "alike", desc := "()I" } : Jvm.MethodName)) ∈ TB := tb_t5 76 rfl rfl
theorem kw_1037 : (Jvm.Cond.selects "HalfMast" ({ cls := "HalfMast", name := "alike", desc := "()I" } : Jvm.MethodName) ({ cls := "HalfMast", name := "alike", desc := "()I" } : Jvm.MethodName)) ∈ TB := tb_t5 77 rfl rfl
theorem kw_1038 : (Jvm.Cond.code ({ cls := "HalfMast", name := "alike", desc := "()I" } : Jvm.MethodName) prog_1_method_50_code (4 : Nat) (Option.some Jvm.ClassFile.FieldType.int)) ∈ TB := tb_t5 78 rfl rfl
theorem kw_1039 : (Jvm.Cond.methodLink "HalfMastLaw" (151 : Nat) ({ cls := "HalfMast", name := "worse", desc := "()I" } : Jvm.MethodName)) ∈ TB := tb_t5 79 rfl rfl
theorem kw_1040 : (Jvm.Cond.instanceMethod ({ cls := "HalfMast", name := "worse", desc := "()I" } : Jvm.MethodName)) ∈ TB := tb_t5 80 rfl rfl
theorem kw_1041 : (Jvm.Cond.selects "HalfMast" ({ cls := "HalfMast", name := "worse", desc := "()I" } : Jvm.MethodName) ({ cls := "HalfMast", name := "worse", desc := "()I" } : Jvm.MethodName)) ∈ TB := tb_t5 81 rfl rfl
theorem kw_1042 : (Jvm.Cond.code ({ cls := "HalfMast", name := "worse", desc := "()I" } : Jvm.MethodName) prog_1_method_51_code (3 : Nat) (Option.some Jvm.ClassFile.FieldType.int)) ∈ TB := tb_t5 82 rfl rfl
theorem kw_1043 : (Jvm.Cond.methodLink "HalfMast" (275 : Nat) ({ cls := "HalfMast", name := "lacksMoreThanFelt", desc := "(I)Z" } : Jvm.MethodName)) ∈ TB := tb_t5 83 rfl rfl
theorem kw_1045 : (Jvm.Cond.instanceMethod ({ cls := "HalfMast", name := "lacksMoreThanFelt", desc := "(I)Z" } : Jvm.MethodName)) ∈ TB := tb_t5 85 rfl rfl
theorem kw_1046 : (Jvm.Cond.code ({ cls := "HalfMast", name := "lacksMoreThanFelt", desc := "(I)Z" } : Jvm.MethodName) prog_1_method_52_code (3 : Nat) (Option.some Jvm.ClassFile.FieldType.boolean)) ∈ TB := tb_t5 86 rfl rfl
theorem kw_1047 : (Jvm.Cond.methodLink "HalfMastLaw" (155 : Nat) ({ cls := "HalfMast", name := "mean", desc := "()I" } : Jvm.MethodName)) ∈ TB := tb_t5 87 rfl rfl
theorem kw_1048 : (Jvm.Cond.instanceMethod ({ cls := "HalfMast", name := "mean", desc := "()I" } : Jvm.MethodName)) ∈ TB := tb_t5 88 rfl rfl
theorem kw_1049 : (Jvm.Cond.selects "HalfMast" ({ cls := "HalfMast", name := "mean", desc := "()I" } : Jvm.MethodName) ({ cls := "HalfMast", name := "mean", desc := "()I" } : Jvm.MethodName)) ∈ TB := tb_t5 89 rfl rfl
theorem kw_1050 : (Jvm.Cond.code ({ cls := "HalfMast", name := "mean", desc := "()I" } : Jvm.MethodName) prog_1_method_53_code (1 : Nat) (Option.some Jvm.ClassFile.FieldType.int)) ∈ TB := tb_t5 90 rfl rfl
theorem kw_1051 : (Jvm.Cond.methodLink "HalfMast" (278 : Nat) ({ cls := "HalfMast", name := "lackedByAll", desc := "(LHalfMast$Course;)I" } : Jvm.MethodName)) ∈ TB := tb_t5 91 rfl rfl
theorem kw_1053 : (Jvm.Cond.instanceMethod ({ cls := "HalfMast", name := "lackedByAll", desc := "(LHalfMast$Course;)I" } : Jvm.MethodName)) ∈ TB := tb_t5 93 rfl rfl
theorem kw_1054 : (Jvm.Cond.code ({ cls := "HalfMast", name := "lackedByAll", desc := "(LHalfMast$Course;)I" } : Jvm.MethodName) prog_1_method_54_code (4 : Nat) (Option.some Jvm.ClassFile.FieldType.int)) ∈ TB := tb_t5 94 rfl rfl
theorem kw_1055 : (Jvm.Cond.methodLink "HalfMastLaw" (191 : Nat) ({ cls := "HalfMast", name := "chance", desc := "(IIII)I" } : Jvm.MethodName)) ∈ TB := tb_t5 95 rfl rfl
theorem kw_1056 : (Jvm.Cond.instanceMethod ({ cls := "HalfMast", name := "chance", desc := "(IIII)I" } : Jvm.MethodName)) ∈ TB := tb_t5 96 rfl rfl
theorem kw_1057 : (Jvm.Cond.selects "HalfMast" ({ cls := "HalfMast", name := "chance", desc := "(IIII)I" } : Jvm.MethodName) ({ cls := "HalfMast", name := "chance", desc := "(IIII)I" } : Jvm.MethodName)) ∈ TB := tb_t5 97 rfl rfl
theorem kw_1058 : (Jvm.Cond.code ({ cls := "HalfMast", name := "chance", desc := "(IIII)I" } : Jvm.MethodName) prog_1_method_55_code (8 : Nat) (Option.some Jvm.ClassFile.FieldType.int)) ∈ TB := tb_t5 98 rfl rfl
theorem kw_1059 : (Jvm.Cond.methodLink "HalfMast" (282 : Nat) ({ cls := "HalfMast", name := "likelihood", desc := "(III)I" } : Jvm.MethodName)) ∈ TB := tb_t5 99 rfl rfl
theorem kw_1060 : (Jvm.Cond.static ({ cls := "HalfMast", name := "likelihood", desc := "(III)I" } : Jvm.MethodName)) ∈ TB := tb_t5 100 rfl rfl
theorem kw_1061 : (Jvm.Cond.code ({ cls := "HalfMast", name := "likelihood", desc := "(III)I" } : Jvm.MethodName) prog_1_method_56_code (5 : Nat) (Option.some Jvm.ClassFile.FieldType.int)) ∈ TB := tb_t5 101 rfl rfl
theorem kw_1062 : (Jvm.Cond.constant "HalfMast" (288 : Nat) (1000000 : Int32)) ∈ TB := tb_t5 102 rfl rfl
theorem kw_1063 : (Jvm.Cond.methodLink "HalfMast" (285 : Nat) ({ cls := "HalfMast", name := "flagByTeeth", desc := "(III)I" } : Jvm.MethodName)) ∈ TB := tb_t5 103 rfl rfl
theorem kw_1065 : (Jvm.Cond.instanceMethod ({ cls := "HalfMast", name := "flagByTeeth", desc := "(III)I" } : Jvm.MethodName)) ∈ TB := tb_t5 105 rfl rfl
theorem kw_1066 : (Jvm.Cond.code ({ cls := "HalfMast", name := "flagByTeeth", desc := "(III)I" } : Jvm.MethodName) prog_1_method_57_code (5 : Nat) (Option.some Jvm.ClassFile.FieldType.int)) ∈ TB := tb_t5 106 rfl rfl
theorem kw_1067 : (Jvm.Cond.methodLink "HalfMastLaw" (204 : Nat) ({ cls := "HalfMast", name := "years", desc := "(III)I" } : Jvm.MethodName)) ∈ TB := tb_t5 107 rfl rfl
theorem kw_1068 : (Jvm.Cond.instanceMethod ({ cls := "HalfMast", name := "years", desc := "(III)I" } : Jvm.MethodName)) ∈ TB := tb_t5 108 rfl rfl
theorem kw_1069 : (Jvm.Cond.selects "HalfMast" ({ cls := "HalfMast", name := "years", desc := "(III)I" } : Jvm.MethodName) ({ cls := "HalfMast", name := "years", desc := "(III)I" } : Jvm.MethodName)) ∈ TB := tb_t5 109 rfl rfl
theorem kw_1070 : (Jvm.Cond.code ({ cls := "HalfMast", name := "years", desc := "(III)I" } : Jvm.MethodName) prog_1_method_61_code (7 : Nat) (Option.some Jvm.ClassFile.FieldType.int)) ∈ TB := tb_t5 110 rfl rfl
theorem kw_1071 : (Jvm.Cond.methodLink "HalfMast" (310 : Nat) ({ cls := "HalfMast", name := "doByDraws", desc := "()V" } : Jvm.MethodName)) ∈ TB := tb_t5 111 rfl rfl
theorem kw_1073 : (Jvm.Cond.instanceMethod ({ cls := "HalfMast", name := "doByDraws", desc := "()V" } : Jvm.MethodName)) ∈ TB := tb_t5 113 rfl rfl
theorem kw_1074 : (Jvm.Cond.code ({ cls := "HalfMast", name := "doByDraws", desc := "()V" } : Jvm.MethodName) prog_1_method_62_code (4 : Nat) (Option.none : Option Jvm.ClassFile.FieldType)) ∈ TB := tb_t5 114 rfl rfl
theorem kw_1075 : (Jvm.Cond.methodLink "HalfMast" (313 : Nat) ({ cls := "HalfMast", name := "draw", desc := "(I)I" } : Jvm.MethodName)) ∈ TB := tb_t5 115 rfl rfl
theorem kw_1077 : (Jvm.Cond.instanceMethod ({ cls := "HalfMast", name := "draw", desc := "(I)I" } : Jvm.MethodName)) ∈ TB := tb_t5 117 rfl rfl
theorem kw_1078 : (Jvm.Cond.code ({ cls := "HalfMast", name := "draw", desc := "(I)I" } : Jvm.MethodName) prog_1_method_63_code (2 : Nat) (Option.some Jvm.ClassFile.FieldType.int)) ∈ TB := tb_t5 118 rfl rfl
theorem kw_1079 : (Jvm.Cond.constantLong "HalfMast" (316 : Nat) (1103515245 : Int64)) ∈ TB := tb_t5 119 rfl rfl
theorem kw_1080 : (Jvm.Cond.constantLong "HalfMast" (318 : Nat) (12345 : Int64)) ∈ TB := tb_t5 120 rfl rfl
theorem kw_1081 : (Jvm.Cond.constantLong "HalfMast" (320 : Nat) (2147483648 : Int64)) ∈ TB := tb_t5 121 rfl rfl
theorem kw_1082 : (Jvm.Cond.constantLong "HalfMast" (322 : Nat) (65536 : Int64)) ∈ TB := tb_t5 122 rfl rfl
theorem kw_1083 : (Jvm.Cond.methodLink "HalfMastLaw" (209 : Nat) ({ cls := "HalfMast", name := "mark", desc := "(IZ)Z" } : Jvm.MethodName)) ∈ TB := tb_t5 123 rfl rfl
theorem kw_1084 : (Jvm.Cond.instanceMethod ({ cls := "HalfMast", name := "mark", desc := "(IZ)Z" } : Jvm.MethodName)) ∈ TB := tb_t5 124 rfl rfl
theorem kw_1085 : (Jvm.Cond.selects "HalfMast" ({ cls := "HalfMast", name := "mark", desc := "(IZ)Z" } : Jvm.MethodName) ({ cls := "HalfMast", name := "mark", desc := "(IZ)Z" } : Jvm.MethodName)) ∈ TB := tb_t5 125 rfl rfl
theorem kw_1086 : (Jvm.Cond.code ({ cls := "HalfMast", name := "mark", desc := "(IZ)Z" } : Jvm.MethodName) prog_1_method_64_code (4 : Nat) (Option.some Jvm.ClassFile.FieldType.boolean)) ∈ TB := tb_t5 126 rfl rfl
theorem kw_1087 : (Jvm.Cond.methodLink "HalfMast" (324 : Nat) ({ cls := "HalfMast", name := "goBack", desc := "(LHalfMast$Mark;)Z" } : Jvm.MethodName)) ∈ TB := tb_t5 127 rfl rfl
theorem kw_1089 : (Jvm.Cond.instanceMethod ({ cls := "HalfMast", name := "goBack", desc := "(LHalfMast$Mark;)Z" } : Jvm.MethodName)) ∈ TB := tb_t5 129 rfl rfl
theorem kw_1090 : (Jvm.Cond.code ({ cls := "HalfMast", name := "goBack", desc := "(LHalfMast$Mark;)Z" } : Jvm.MethodName) prog_1_method_67_code (2 : Nat) (Option.some Jvm.ClassFile.FieldType.boolean)) ∈ TB := tb_t5 130 rfl rfl
theorem kw_1093 : (Jvm.Cond.instanceMethod ({ cls := "HalfMast$Notes", name := "copy", desc := "(LHalfMast$Notes;)V" } : Jvm.MethodName)) ∈ TB := tb_t5 133 rfl rfl
theorem kw_1094 : (Jvm.Cond.code ({ cls := "HalfMast$Notes", name := "copy", desc := "(LHalfMast$Notes;)V" } : Jvm.MethodName) prog_7_method_3_code (2 : Nat) (Option.none : Option Jvm.ClassFile.FieldType)) ∈ TB := tb_t5 134 rfl rfl
theorem kw_1095 : (Jvm.Cond.methodLink "HalfMast$Notes" (22 : Nat) ({ cls := "java/lang/System", name := "arraycopy", desc := "(Ljava/lang/Object;ILjava/lang/Object;II)V" } : Jvm.MethodName)) ∈ TB := tb_t5 135 rfl rfl
theorem kw_1096 : (Jvm.Cond.methodLink "HalfMast" (328 : Nat) ({ cls := "HalfMast", name := "lay", desc := "(LHalfMast$Mark;)Z" } : Jvm.MethodName)) ∈ TB := tb_t5 136 rfl rfl
theorem kw_1098 : (Jvm.Cond.instanceMethod ({ cls := "HalfMast", name := "lay", desc := "(LHalfMast$Mark;)Z" } : Jvm.MethodName)) ∈ TB := tb_t5 138 rfl rfl
theorem kw_1099 : (Jvm.Cond.code ({ cls := "HalfMast", name := "lay", desc := "(LHalfMast$Mark;)Z" } : Jvm.MethodName) prog_1_method_66_code (2 : Nat) (Option.some Jvm.ClassFile.FieldType.boolean)) ∈ TB := tb_t5 139 rfl rfl
theorem kw_1101 : (Jvm.Cond.methodLink "HalfMastLaw" (214 : Nat) ({ cls := "HalfMast", name := "count", desc := "(I)I" } : Jvm.MethodName)) ∈ TB := tb_t5 141 rfl rfl
theorem kw_1102 : (Jvm.Cond.instanceMethod ({ cls := "HalfMast", name := "count", desc := "(I)I" } : Jvm.MethodName)) ∈ TB := tb_t5 142 rfl rfl
theorem kw_1103 : (Jvm.Cond.selects "HalfMast" ({ cls := "HalfMast", name := "count", desc := "(I)I" } : Jvm.MethodName) ({ cls := "HalfMast", name := "count", desc := "(I)I" } : Jvm.MethodName)) ∈ TB := tb_t5 143 rfl rfl
theorem kw_1104 : (Jvm.Cond.code ({ cls := "HalfMast", name := "count", desc := "(I)I" } : Jvm.MethodName) prog_1_method_68_code (2 : Nat) (Option.some Jvm.ClassFile.FieldType.int)) ∈ TB := tb_t5 144 rfl rfl
theorem kw_1105 : (Jvm.Cond.methodLink "HalfMast" (352 : Nat) ({ cls := "HalfMast", name := "whoLacks", desc := "()I" } : Jvm.MethodName)) ∈ TB := tb_t5 145 rfl rfl
theorem kw_1107 : (Jvm.Cond.instanceMethod ({ cls := "HalfMast", name := "whoLacks", desc := "()I" } : Jvm.MethodName)) ∈ TB := tb_t5 147 rfl rfl
theorem kw_1108 : (Jvm.Cond.code ({ cls := "HalfMast", name := "whoLacks", desc := "()I" } : Jvm.MethodName) prog_1_method_69_code (3 : Nat) (Option.some Jvm.ClassFile.FieldType.int)) ∈ TB := tb_t5 148 rfl rfl
theorem kw_1109 : (Jvm.Cond.methodLink "HalfMastLaw" (195 : Nat) ({ cls := "HalfMastLaw", name := "rests", desc := "(LHalfMast;IIII[J)I" } : Jvm.MethodName)) ∈ TB := tb_t5 149 rfl rfl
theorem kw_1110 : (Jvm.Cond.static ({ cls := "HalfMastLaw", name := "rests", desc := "(LHalfMast;IIII[J)I" } : Jvm.MethodName)) ∈ TB := tb_t5 150 rfl rfl
theorem kw_1112 : (Jvm.Cond.classLink "HalfMastLaw" (13 : Nat) "java/util/NoSuchElementException") ∈ TB := tb_t5 152 rfl rfl
theorem kw_1113 : (Jvm.Cond.methodLink "HalfMastLaw" (7 : Nat) ({ cls := "HalfMast", name := "rests", desc := "(IIII)I" } : Jvm.MethodName)) ∈ TB := tb_t5 153 rfl rfl
theorem kw_1114 : (Jvm.Cond.instanceMethod ({ cls := "HalfMast", name := "rests", desc := "(IIII)I" } : Jvm.MethodName)) ∈ TB := tb_t5 154 rfl rfl
theorem kw_1115 : (Jvm.Cond.selects "HalfMast" ({ cls := "HalfMast", name := "rests", desc := "(IIII)I" } : Jvm.MethodName) ({ cls := "HalfMast", name := "rests", desc := "(IIII)I" } : Jvm.MethodName)) ∈ TB := tb_t5 155 rfl rfl
theorem kw_1116 : (Jvm.Cond.code ({ cls := "HalfMast", name := "rests", desc := "(IIII)I" } : Jvm.MethodName) prog_1_method_58_code (7 : Nat) (Option.some Jvm.ClassFile.FieldType.int)) ∈ TB := tb_t5 156 rfl rfl
theorem kw_1117 : (Jvm.Cond.classLink "HalfMast" (289 : Nat) "java/util/NoSuchElementException") ∈ TB := tb_t5 157 rfl rfl
theorem kw_1118 : (Jvm.Cond.instantiable "java/util/NoSuchElementException" (6 : Nat)) ∈ TB := tb_t5 158 rfl rfl
theorem kw_1126 : (Jvm.Cond.selects "java/util/NoSuchElementException" ({ cls := "java/lang/Throwable", name := "fillInStackTrace", desc := "(I)Ljava/lang/Throwable;" } : Jvm.MethodName) ({ cls := "java/lang/Throwable", name := "fillInStackTrace", desc := "(I)Ljava/lang/Throwable;" } : Jvm.MethodName)) ∈ TB := tb_t5 166 rfl rfl
theorem kw_1127 : (Jvm.Cond.selects "java/util/NoSuchElementException" ({ cls := "java/lang/Throwable", name := "fillInStackTrace", desc := "()Ljava/lang/Throwable;" } : Jvm.MethodName) ({ cls := "java/lang/Throwable", name := "fillInStackTrace", desc := "()Ljava/lang/Throwable;" } : Jvm.MethodName)) ∈ TB := tb_t5 167 rfl rfl
theorem kw_1128 : (Jvm.Cond.lays "java/util/NoSuchElementException" "java/lang/Throwable" "cause" "Ljava/lang/Throwable;") ∈ TB := tb_t5 168 rfl rfl
theorem kw_1129 : (Jvm.Cond.lays "java/lang/Throwable" "java/lang/Throwable" "cause" "Ljava/lang/Throwable;") ∈ TB := tb_t5 169 rfl rfl
theorem kw_1130 : (Jvm.Cond.lays "java/util/NoSuchElementException" "java/lang/Throwable" "stackTrace" "[Ljava/lang/StackTraceElement;") ∈ TB := tb_t5 170 rfl rfl
theorem kw_1131 : (Jvm.Cond.lays "java/lang/Throwable" "java/lang/Throwable" "stackTrace" "[Ljava/lang/StackTraceElement;") ∈ TB := tb_t5 171 rfl rfl
theorem kw_1132 : (Jvm.Cond.lays "java/util/NoSuchElementException" "java/lang/Throwable" "suppressedExceptions" "Ljava/util/List;") ∈ TB := tb_t5 172 rfl rfl
theorem kw_1133 : (Jvm.Cond.lays "java/lang/Throwable" "java/lang/Throwable" "suppressedExceptions" "Ljava/util/List;") ∈ TB := tb_t5 173 rfl rfl
theorem kw_1134 : (Jvm.Cond.lays "java/util/NoSuchElementException" "java/lang/Throwable" "detailMessage" "Ljava/lang/String;") ∈ TB := tb_t5 174 rfl rfl
theorem kw_1135 : (Jvm.Cond.lays "java/lang/Throwable" "java/lang/Throwable" "detailMessage" "Ljava/lang/String;") ∈ TB := tb_t5 175 rfl rfl
theorem kw_1136 : (Jvm.Cond.lays "java/util/NoSuchElementException" "java/lang/Throwable" "backtrace" "Ljava/lang/Object;") ∈ TB := tb_t5 176 rfl rfl
theorem kw_1137 : (Jvm.Cond.lays "java/lang/Throwable" "java/lang/Throwable" "backtrace" "Ljava/lang/Object;") ∈ TB := tb_t5 177 rfl rfl
theorem kw_1138 : (Jvm.Cond.fieldLink "java/lang/Throwable" (198 : Nat) "java/lang/Throwable" "backtrace" "Ljava/lang/Object;") ∈ TB := tb_t5 178 rfl rfl
theorem kw_1139 : (Jvm.Cond.superclass "java/lang/Throwable" "java/lang/Object") ∈ TB := tb_t5 179 rfl rfl
theorem kw_1140 : (Jvm.Cond.instanceMethod ({ cls := "java/lang/Throwable", name := "<init>", desc := "()V" } : Jvm.MethodName)) ∈ TB := tb_t5 180 rfl rfl
theorem kw_1141 : (Jvm.Cond.code ({ cls := "java/lang/Throwable", name := "<init>", desc := "()V" } : Jvm.MethodName) prog_28_method_1_code (1 : Nat) (Option.none : Option Jvm.ClassFile.FieldType)) ∈ TB := tb_t5 181 rfl rfl
theorem kw_1142 : (Jvm.Cond.methodLink "java/lang/Throwable" (1 : Nat) ({ cls := "java/lang/Object", name := "<init>", desc := "()V" } : Jvm.MethodName)) ∈ TB := tb_t5 182 rfl rfl
theorem kw_1143 : (Jvm.Cond.fieldLink "java/lang/Throwable" (13 : Nat) "java/lang/Throwable" "UNASSIGNED_STACK" "[Ljava/lang/StackTraceElement;") ∈ TB := tb_t5 183 rfl rfl
theorem kw_1145 : (Jvm.Cond.fieldLink "java/lang/Throwable" (20 : Nat) "java/lang/Throwable" "SUPPRESSED_SENTINEL" "Ljava/util/List;") ∈ TB := tb_t5 185 rfl rfl
theorem kw_1147 : (Jvm.Cond.methodLink "java/lang/Throwable" (27 : Nat) ({ cls := "java/lang/Throwable", name := "fillInStackTrace", desc := "()Ljava/lang/Throwable;" } : Jvm.MethodName)) ∈ TB := tb_t5 187 rfl rfl
theorem kw_1148 : (Jvm.Cond.instanceMethod ({ cls := "java/lang/Throwable", name := "fillInStackTrace", desc := "()Ljava/lang/Throwable;" } : Jvm.MethodName)) ∈ TB := tb_t5 188 rfl rfl
theorem kw_1149 : (Jvm.Cond.sameMethod "java/lang/Throwable" "java/lang/Throwable" "fillInStackTrace" "()Ljava/lang/Throwable;") ∈ TB := tb_t5 189 rfl rfl
theorem kw_1151 : (Jvm.Cond.methodLink "java/lang/Throwable" (202 : Nat) ({ cls := "java/lang/Throwable", name := "fillInStackTrace", desc := "(I)Ljava/lang/Throwable;" } : Jvm.MethodName)) ∈ TB := tb_t5 191 rfl rfl
theorem kw_1153 : (Jvm.Cond.instanceMethod ({ cls := "java/lang/Throwable", name := "fillInStackTrace", desc := "(I)Ljava/lang/Throwable;" } : Jvm.MethodName)) ∈ TB := tb_t5 193 rfl rfl
theorem kw_1154 : (Jvm.Cond.instantiable "java/lang/Throwable" (6 : Nat)) ∈ TB := tb_t5 194 rfl rfl
theorem kw_1155 : (Jvm.Cond.native ({ cls := "java/lang/Throwable", name := "fillInStackTrace", desc := "(I)Ljava/lang/Throwable;" } : Jvm.MethodName)) ∈ TB := tb_t5 195 rfl rfl
theorem kw_1157 : (Jvm.Cond.methodLink "HalfMast" (293 : Nat) ({ cls := "java/util/NoSuchElementException", name := "<init>", desc := "(Ljava/lang/String;)V" } : Jvm.MethodName)) ∈ TB := tb_t5 197 rfl rfl
theorem kw_1158 : (Jvm.Cond.instanceMethod ({ cls := "java/util/NoSuchElementException", name := "<init>", desc := "(Ljava/lang/String;)V" } : Jvm.MethodName)) ∈ TB := tb_t5 198 rfl rfl
theorem kw_1159 : (Jvm.Cond.code ({ cls := "java/util/NoSuchElementException", name := "<init>", desc := "(Ljava/lang/String;)V" } : Jvm.MethodName) prog_32_method_4_code (2 : Nat) (Option.none : Option Jvm.ClassFile.FieldType)) ∈ TB := tb_t5 199 rfl rfl
theorem kw_1160 : (Jvm.Cond.methodLink "java/util/NoSuchElementException" (13 : Nat) ({ cls := "java/lang/RuntimeException", name := "<init>", desc := "(Ljava/lang/String;)V" } : Jvm.MethodName)) ∈ TB := tb_t5 200 rfl rfl
theorem kw_1161 : (Jvm.Cond.instanceMethod ({ cls := "java/lang/RuntimeException", name := "<init>", desc := "(Ljava/lang/String;)V" } : Jvm.MethodName)) ∈ TB := tb_t5 201 rfl rfl
theorem kw_1162 : (Jvm.Cond.code ({ cls := "java/lang/RuntimeException", name := "<init>", desc := "(Ljava/lang/String;)V" } : Jvm.MethodName) prog_23_method_2_code (2 : Nat) (Option.none : Option Jvm.ClassFile.FieldType)) ∈ TB := tb_t5 202 rfl rfl
theorem kw_1163 : (Jvm.Cond.methodLink "java/lang/RuntimeException" (7 : Nat) ({ cls := "java/lang/Exception", name := "<init>", desc := "(Ljava/lang/String;)V" } : Jvm.MethodName)) ∈ TB := tb_t5 203 rfl rfl
theorem kw_1164 : (Jvm.Cond.instanceMethod ({ cls := "java/lang/Exception", name := "<init>", desc := "(Ljava/lang/String;)V" } : Jvm.MethodName)) ∈ TB := tb_t5 204 rfl rfl
theorem kw_1165 : (Jvm.Cond.code ({ cls := "java/lang/Exception", name := "<init>", desc := "(Ljava/lang/String;)V" } : Jvm.MethodName) prog_20_method_2_code (2 : Nat) (Option.none : Option Jvm.ClassFile.FieldType)) ∈ TB := tb_t5 205 rfl rfl
theorem kw_1166 : (Jvm.Cond.methodLink "java/lang/Exception" (7 : Nat) ({ cls := "java/lang/Throwable", name := "<init>", desc := "(Ljava/lang/String;)V" } : Jvm.MethodName)) ∈ TB := tb_t5 206 rfl rfl
theorem kw_1167 : (Jvm.Cond.instanceMethod ({ cls := "java/lang/Throwable", name := "<init>", desc := "(Ljava/lang/String;)V" } : Jvm.MethodName)) ∈ TB := tb_t5 207 rfl rfl
theorem kw_1168 : (Jvm.Cond.code ({ cls := "java/lang/Throwable", name := "<init>", desc := "(Ljava/lang/String;)V" } : Jvm.MethodName) prog_28_method_2_code (2 : Nat) (Option.none : Option Jvm.ClassFile.FieldType)) ∈ TB := tb_t5 208 rfl rfl
theorem kw_1169 : (Jvm.Cond.fieldLink "java/lang/Throwable" (198 : Nat) "java/lang/Throwable" "backtrace" "Ljava/lang/Object;") ∈ TB := tb_t5 209 rfl rfl
theorem kw_1170 : (Jvm.Cond.fieldLink "java/lang/Throwable" (31 : Nat) "java/lang/Throwable" "detailMessage" "Ljava/lang/String;") ∈ TB := tb_t5 210 rfl rfl
theorem kw_1171 : (Jvm.Cond.fieldLink "java/lang/Throwable" (7 : Nat) "java/lang/Throwable" "cause" "Ljava/lang/Throwable;") ∈ TB := tb_t5 211 rfl rfl
theorem kw_1172 : (Jvm.Cond.fieldLink "java/lang/Throwable" (17 : Nat) "java/lang/Throwable" "stackTrace" "[Ljava/lang/StackTraceElement;") ∈ TB := tb_t5 212 rfl rfl
theorem kw_1173 : (Jvm.Cond.fieldLink "java/lang/Throwable" (24 : Nat) "java/lang/Throwable" "suppressedExceptions" "Ljava/util/List;") ∈ TB := tb_t5 213 rfl rfl
theorem kw_1174 : (Jvm.Cond.soleField "java/lang/Throwable" "backtrace") ∈ TB := tb_t5 214 rfl rfl
theorem kw_1175 : (Jvm.Cond.soleField "java/lang/Throwable" "detailMessage") ∈ TB := tb_t5 215 rfl rfl
theorem kw_1176 : (Jvm.Cond.soleField "java/lang/Throwable" "cause") ∈ TB := tb_t5 216 rfl rfl
theorem kw_1177 : (Jvm.Cond.soleField "java/lang/Throwable" "stackTrace") ∈ TB := tb_t5 217 rfl rfl
theorem kw_1178 : (Jvm.Cond.lays "java/util/NoSuchElementException" "java/lang/Throwable" "depth" "I") ∈ TB := tb_t5 218 rfl rfl
theorem kw_1179 : (Jvm.Cond.soleField "java/lang/Throwable" "depth") ∈ TB := tb_t5 219 rfl rfl
theorem kw_1180 : (Jvm.Cond.soleField "java/lang/Throwable" "suppressedExceptions") ∈ TB := tb_t5 220 rfl rfl
theorem kw_1181 : (Jvm.Cond.superclass "java/util/NoSuchElementException" "java/lang/RuntimeException") ∈ TB := tb_t5 221 rfl rfl
theorem kw_1182 : (Jvm.Cond.methodLink "HalfMast" (296 : Nat) ({ cls := "HalfMast", name := "isRest", desc := "(IIII)Z" } : Jvm.MethodName)) ∈ TB := tb_t5 222 rfl rfl
theorem kw_1183 : (Jvm.Cond.static ({ cls := "HalfMast", name := "isRest", desc := "(IIII)Z" } : Jvm.MethodName)) ∈ TB := tb_t5 223 rfl rfl
theorem kw_1184 : (Jvm.Cond.code ({ cls := "HalfMast", name := "isRest", desc := "(IIII)Z" } : Jvm.MethodName) prog_1_method_59_code (6 : Nat) (Option.some Jvm.ClassFile.FieldType.boolean)) ∈ TB := tb_t5 224 rfl rfl
theorem kw_1185 : (Jvm.Cond.methodLink "HalfMast" (302 : Nat) ({ cls := "HalfMast", name := "gain", desc := "(ZZIII)I" } : Jvm.MethodName)) ∈ TB := tb_t5 225 rfl rfl
theorem kw_1186 : (Jvm.Cond.static ({ cls := "HalfMast", name := "gain", desc := "(ZZIII)I" } : Jvm.MethodName)) ∈ TB := tb_t5 226 rfl rfl
theorem kw_1187 : (Jvm.Cond.code ({ cls := "HalfMast", name := "gain", desc := "(ZZIII)I" } : Jvm.MethodName) prog_1_method_60_code (5 : Nat) (Option.some Jvm.ClassFile.FieldType.int)) ∈ TB := tb_t5 227 rfl rfl
theorem kw_1189 : (Jvm.Cond.methodLink "HalfMastLaw" (201 : Nat) ({ cls := "HalfMastModel", name := "thrown", desc := "()I" } : Jvm.MethodName)) ∈ TB := tb_t5 229 rfl rfl
theorem kw_1190 : (Jvm.Cond.instanceMethod ({ cls := "HalfMastModel", name := "thrown", desc := "()I" } : Jvm.MethodName)) ∈ TB := tb_t5 230 rfl rfl
theorem kw_1191 : (Jvm.Cond.selects "HalfMastModel" ({ cls := "HalfMastModel", name := "thrown", desc := "()I" } : Jvm.MethodName) ({ cls := "HalfMastModel", name := "thrown", desc := "()I" } : Jvm.MethodName)) ∈ TB := tb_t5 231 rfl rfl
theorem kw_1192 : (Jvm.Cond.code ({ cls := "HalfMastModel", name := "thrown", desc := "()I" } : Jvm.MethodName) prog_14_method_1_code (1 : Nat) (Option.some Jvm.ClassFile.FieldType.int)) ∈ TB := tb_t5 232 rfl rfl
theorem kw_1193 : (Jvm.Cond.methodLink "HalfMastLaw" (25 : Nat) ({ cls := "HalfMastModel", name := "feed", desc := "(JJJ)I" } : Jvm.MethodName)) ∈ TB := tb_t5 233 rfl rfl
theorem kw_1194 : (Jvm.Cond.instanceMethod ({ cls := "HalfMastModel", name := "feed", desc := "(JJJ)I" } : Jvm.MethodName)) ∈ TB := tb_t5 234 rfl rfl
theorem kw_1195 : (Jvm.Cond.selects "HalfMastModel" ({ cls := "HalfMastModel", name := "feed", desc := "(JJJ)I" } : Jvm.MethodName) ({ cls := "HalfMastModel", name := "feed", desc := "(JJJ)I" } : Jvm.MethodName)) ∈ TB := tb_t5 235 rfl rfl
theorem kw_1196 : (Jvm.Cond.code ({ cls := "HalfMastModel", name := "feed", desc := "(JJJ)I" } : Jvm.MethodName) prog_14_method_2_code (7 : Nat) (Option.some Jvm.ClassFile.FieldType.int)) ∈ TB := tb_t5 236 rfl rfl
theorem kw_1197 : (Jvm.Cond.methodLink "HalfMastModel" (7 : Nat) ({ cls := "HalfMastModel", name := "lay", desc := "(J)V" } : Jvm.MethodName)) ∈ TB := tb_t5 237 rfl rfl
theorem kw_1199 : (Jvm.Cond.instanceMethod ({ cls := "HalfMastModel", name := "lay", desc := "(J)V" } : Jvm.MethodName)) ∈ TB := tb_t5 239 rfl rfl
theorem kw_1200 : (Jvm.Cond.instantiable "HalfMastModel" (30 : Nat)) ∈ TB := tb_t6 0 rfl rfl
theorem kw_1201 : (Jvm.Cond.code ({ cls := "HalfMastModel", name := "lay", desc := "(J)V" } : Jvm.MethodName) prog_14_method_3_code (5 : Nat) (Option.none : Option Jvm.ClassFile.FieldType)) ∈ TB := tb_t6 1 rfl rfl
theorem kw_1202 : (Jvm.Cond.classLink "HalfMastLaw" (16 : Nat) "HalfMastModel") ∈ TB := tb_t6 2 rfl rfl
theorem kw_1203 : (Jvm.Cond.methodLink "HalfMastLaw" (18 : Nat) ({ cls := "HalfMastModel", name := "<init>", desc := "()V" } : Jvm.MethodName)) ∈ TB := tb_t6 3 rfl rfl
theorem kw_1204 : (Jvm.Cond.instanceMethod ({ cls := "HalfMastModel", name := "<init>", desc := "()V" } : Jvm.MethodName)) ∈ TB := tb_t6 4 rfl rfl
theorem kw_1205 : (Jvm.Cond.code ({ cls := "HalfMastModel", name := "<init>", desc := "()V" } : Jvm.MethodName) prog_14_method_4_code (1 : Nat) (Option.none : Option Jvm.ClassFile.FieldType)) ∈ TB := tb_t6 5 rfl rfl
theorem kw_1206 : (Jvm.Cond.methodLink "HalfMastModel" (18 : Nat) ({ cls := "java/lang/Object", name := "<init>", desc := "()V" } : Jvm.MethodName)) ∈ TB := tb_t6 6 rfl rfl
theorem kw_1207 : (Jvm.Cond.constantLong "HalfMastModel" (34 : Nat) (1119812451 : Int64)) ∈ TB := tb_t6 7 rfl rfl
theorem kw_1208 : (Jvm.Cond.constantLong "HalfMastModel" (36 : Nat) (22545118 : Int64)) ∈ TB := tb_t6 8 rfl rfl
theorem kw_1209 : (Jvm.Cond.constantLong "HalfMastModel" (38 : Nat) (11505539 : Int64)) ∈ TB := tb_t6 9 rfl rfl
theorem kw_1210 : (Jvm.Cond.constantLong "HalfMastModel" (40 : Nat) (660581 : Int64)) ∈ TB := tb_t6 10 rfl rfl
theorem kw_1211 : (Jvm.Cond.constantLong "HalfMastModel" (42 : Nat) (1604747591 : Int64)) ∈ TB := tb_t6 11 rfl rfl
theorem kw_1212 : (Jvm.Cond.constantLong "HalfMastModel" (44 : Nat) (1277386687 : Int64)) ∈ TB := tb_t6 12 rfl rfl
theorem kw_1213 : (Jvm.Cond.constantLong "HalfMastModel" (46 : Nat) (11320465 : Int64)) ∈ TB := tb_t6 13 rfl rfl
theorem kw_1214 : (Jvm.Cond.constantLong "HalfMastModel" (48 : Nat) (4904 : Int64)) ∈ TB := tb_t6 14 rfl rfl
theorem kw_1215 : (Jvm.Cond.constantLong "HalfMastModel" (50 : Nat) (793 : Int64)) ∈ TB := tb_t6 15 rfl rfl
theorem kw_1216 : (Jvm.Cond.constantLong "HalfMastModel" (52 : Nat) (716042 : Int64)) ∈ TB := tb_t6 16 rfl rfl
theorem kw_1217 : (Jvm.Cond.constantLong "HalfMastModel" (54 : Nat) (629079 : Int64)) ∈ TB := tb_t6 17 rfl rfl
theorem kw_1218 : (Jvm.Cond.constantLong "HalfMastModel" (56 : Nat) (9788 : Int64)) ∈ TB := tb_t6 18 rfl rfl
theorem kw_1219 : (Jvm.Cond.constantLong "HalfMastModel" (58 : Nat) (36421547 : Int64)) ∈ TB := tb_t6 19 rfl rfl
theorem kw_1220 : (Jvm.Cond.constantLong "HalfMastModel" (60 : Nat) (310960 : Int64)) ∈ TB := tb_t6 20 rfl rfl
theorem kw_1221 : (Jvm.Cond.constantLong "HalfMastModel" (62 : Nat) (5538 : Int64)) ∈ TB := tb_t6 21 rfl rfl
theorem kw_1222 : (Jvm.Cond.constantLong "HalfMastModel" (64 : Nat) (30596128 : Int64)) ∈ TB := tb_t6 22 rfl rfl
theorem kw_1223 : (Jvm.Cond.constantLong "HalfMastModel" (66 : Nat) (23280048 : Int64)) ∈ TB := tb_t6 23 rfl rfl
theorem kw_1224 : (Jvm.Cond.constantLong "HalfMastModel" (68 : Nat) (43567634 : Int64)) ∈ TB := tb_t6 24 rfl rfl
theorem kw_1225 : (Jvm.Cond.constantLong "HalfMastModel" (70 : Nat) (6040476 : Int64)) ∈ TB := tb_t6 25 rfl rfl
theorem kw_1226 : (Jvm.Cond.constantLong "HalfMastModel" (72 : Nat) (19741 : Int64)) ∈ TB := tb_t6 26 rfl rfl
theorem kw_1227 : (Jvm.Cond.constantLong "HalfMastModel" (74 : Nat) (1891 : Int64)) ∈ TB := tb_t6 27 rfl rfl
theorem kw_1228 : (Jvm.Cond.constantLong "HalfMastModel" (76 : Nat) (573 : Int64)) ∈ TB := tb_t6 28 rfl rfl
theorem kw_1229 : (Jvm.Cond.constantLong "HalfMastModel" (78 : Nat) (375629 : Int64)) ∈ TB := tb_t6 29 rfl rfl
theorem kw_1230 : (Jvm.Cond.constantLong "HalfMastModel" (80 : Nat) (417812 : Int64)) ∈ TB := tb_t6 30 rfl rfl
theorem kw_1231 : (Jvm.Cond.constantLong "HalfMastModel" (82 : Nat) (311227 : Int64)) ∈ TB := tb_t6 31 rfl rfl
theorem kw_1232 : (Jvm.Cond.constantLong "HalfMastModel" (84 : Nat) (204726 : Int64)) ∈ TB := tb_t6 32 rfl rfl
theorem kw_1233 : (Jvm.Cond.methodLink "HalfMastModel" (126 : Nat) ({ cls := "HalfMastModel", name := "standsAsAlways", desc := "(I)V" } : Jvm.MethodName)) ∈ TB := tb_t6 33 rfl rfl
theorem kw_1235 : (Jvm.Cond.instanceMethod ({ cls := "HalfMastModel", name := "standsAsAlways", desc := "(I)V" } : Jvm.MethodName)) ∈ TB := tb_t6 35 rfl rfl
theorem kw_1236 : (Jvm.Cond.code ({ cls := "HalfMastModel", name := "standsAsAlways", desc := "(I)V" } : Jvm.MethodName) prog_14_method_18_code (3 : Nat) (Option.none : Option Jvm.ClassFile.FieldType)) ∈ TB := tb_t6 36 rfl rfl
theorem kw_1237 : (Jvm.Cond.methodLink "HalfMastModel" (130 : Nat) ({ cls := "HalfMastModel", name := "begins", desc := "()V" } : Jvm.MethodName)) ∈ TB := tb_t6 37 rfl rfl
theorem kw_1239 : (Jvm.Cond.instanceMethod ({ cls := "HalfMastModel", name := "begins", desc := "()V" } : Jvm.MethodName)) ∈ TB := tb_t6 39 rfl rfl
theorem kw_1240 : (Jvm.Cond.code ({ cls := "HalfMastModel", name := "begins", desc := "()V" } : Jvm.MethodName) prog_14_method_41_code (2 : Nat) (Option.none : Option Jvm.ClassFile.FieldType)) ∈ TB := tb_t6 40 rfl rfl
theorem kw_1241 : (Jvm.Cond.methodLink "HalfMastModel" (262 : Nat) ({ cls := "HalfMastModel", name := "rulesAsTold", desc := "()V" } : Jvm.MethodName)) ∈ TB := tb_t6 41 rfl rfl
theorem kw_1243 : (Jvm.Cond.instanceMethod ({ cls := "HalfMastModel", name := "rulesAsTold", desc := "()V" } : Jvm.MethodName)) ∈ TB := tb_t6 43 rfl rfl
theorem kw_1244 : (Jvm.Cond.code ({ cls := "HalfMastModel", name := "rulesAsTold", desc := "()V" } : Jvm.MethodName) prog_14_method_42_code (1 : Nat) (Option.none : Option Jvm.ClassFile.FieldType)) ∈ TB := tb_t6 44 rfl rfl
theorem kw_1245 : (Jvm.Cond.methodLink "HalfMastModel" (265 : Nat) ({ cls := "HalfMastModel", name := "starts", desc := "(I)V" } : Jvm.MethodName)) ∈ TB := tb_t6 45 rfl rfl
theorem kw_1247 : (Jvm.Cond.instanceMethod ({ cls := "HalfMastModel", name := "starts", desc := "(I)V" } : Jvm.MethodName)) ∈ TB := tb_t6 47 rfl rfl
theorem kw_1248 : (Jvm.Cond.code ({ cls := "HalfMastModel", name := "starts", desc := "(I)V" } : Jvm.MethodName) prog_14_method_40_code (3 : Nat) (Option.none : Option Jvm.ClassFile.FieldType)) ∈ TB := tb_t6 48 rfl rfl
theorem kw_1249 : (Jvm.Cond.methodLink "HalfMastModel" (255 : Nat) ({ cls := "HalfMastModel", name := "persons", desc := "()I" } : Jvm.MethodName)) ∈ TB := tb_t6 49 rfl rfl
theorem kw_1251 : (Jvm.Cond.instanceMethod ({ cls := "HalfMastModel", name := "persons", desc := "()I" } : Jvm.MethodName)) ∈ TB := tb_t6 51 rfl rfl
theorem kw_1252 : (Jvm.Cond.code ({ cls := "HalfMastModel", name := "persons", desc := "()I" } : Jvm.MethodName) prog_14_method_44_code (1 : Nat) (Option.some Jvm.ClassFile.FieldType.int)) ∈ TB := tb_t6 52 rfl rfl
theorem kw_1253 : (Jvm.Cond.methodLink "HalfMastModel" (259 : Nat) ({ cls := "HalfMastModel", name := "personOf", desc := "(II)I" } : Jvm.MethodName)) ∈ TB := tb_t6 53 rfl rfl
theorem kw_1255 : (Jvm.Cond.instanceMethod ({ cls := "HalfMastModel", name := "personOf", desc := "(II)I" } : Jvm.MethodName)) ∈ TB := tb_t6 55 rfl rfl
theorem kw_1256 : (Jvm.Cond.code ({ cls := "HalfMastModel", name := "personOf", desc := "(II)I" } : Jvm.MethodName) prog_14_method_45_code (3 : Nat) (Option.some Jvm.ClassFile.FieldType.int)) ∈ TB := tb_t6 56 rfl rfl
theorem kw_1257 : (Jvm.Cond.fieldLink "HalfMastModel" (1 : Nat) "HalfMastModel" "thrown" "I") ∈ TB := tb_t6 57 rfl rfl
theorem kw_1258 : (Jvm.Cond.fieldLink "HalfMastModel" (14 : Nat) "HalfMastModel" "tape" "[I") ∈ TB := tb_t6 58 rfl rfl
theorem kw_1259 : (Jvm.Cond.fieldLink "HalfMastModel" (11 : Nat) "HalfMastModel" "taped" "I") ∈ TB := tb_t6 59 rfl rfl
theorem kw_1260 : (Jvm.Cond.fieldLink "HalfMastModel" (137 : Nat) "HalfMastModel" "size" "I") ∈ TB := tb_t6 60 rfl rfl
theorem kw_1261 : (Jvm.Cond.fieldLink "HalfMastModel" (24 : Nat) "HalfMastModel" "sort" "[I") ∈ TB := tb_t6 61 rfl rfl
theorem kw_1262 : (Jvm.Cond.fieldLink "HalfMastModel" (27 : Nat) "HalfMastModel" "place" "[I") ∈ TB := tb_t6 62 rfl rfl
theorem kw_1263 : (Jvm.Cond.fieldLink "HalfMastModel" (30 : Nat) "HalfMastModel" "value" "[J") ∈ TB := tb_t6 63 rfl rfl
theorem kw_1264 : (Jvm.Cond.fieldLink "HalfMastModel" (156 : Nat) "HalfMastModel" "at" "I") ∈ TB := tb_t6 64 rfl rfl
theorem kw_1265 : (Jvm.Cond.fieldLink "HalfMastModel" (159 : Nat) "HalfMastModel" "fault" "I") ∈ TB := tb_t6 65 rfl rfl
theorem kw_1266 : (Jvm.Cond.fieldLink "HalfMastModel" (86 : Nat) "HalfMastModel" "words" "[J") ∈ TB := tb_t6 66 rfl rfl
theorem kw_1267 : (Jvm.Cond.fieldLink "HalfMastModel" (89 : Nat) "HalfMastModel" "towns" "[I") ∈ TB := tb_t6 67 rfl rfl
theorem kw_1268 : (Jvm.Cond.fieldLink "HalfMastModel" (92 : Nat) "HalfMastModel" "op" "[I") ∈ TB := tb_t6 68 rfl rfl
theorem kw_1269 : (Jvm.Cond.fieldLink "HalfMastModel" (95 : Nat) "HalfMastModel" "arg" "[I") ∈ TB := tb_t6 69 rfl rfl
theorem kw_1270 : (Jvm.Cond.fieldLink "HalfMastModel" (201 : Nat) "HalfMastModel" "codes" "I") ∈ TB := tb_t6 70 rfl rfl
theorem kw_1271 : (Jvm.Cond.fieldLink "HalfMastModel" (98 : Nat) "HalfMastModel" "names" "[J") ∈ TB := tb_t6 71 rfl rfl
theorem kw_1272 : (Jvm.Cond.fieldLink "HalfMastModel" (101 : Nat) "HalfMastModel" "readNames" "[J") ∈ TB := tb_t6 72 rfl rfl
theorem kw_1273 : (Jvm.Cond.fieldLink "HalfMastModel" (187 : Nat) "HalfMastModel" "namesMany" "I") ∈ TB := tb_t6 73 rfl rfl
theorem kw_1274 : (Jvm.Cond.fieldLink "HalfMastModel" (184 : Nat) "HalfMastModel" "readMany" "I") ∈ TB := tb_t6 74 rfl rfl
theorem kw_1275 : (Jvm.Cond.fieldLink "HalfMastModel" (204 : Nat) "HalfMastModel" "once" "I") ∈ TB := tb_t6 75 rfl rfl
theorem kw_1276 : (Jvm.Cond.fieldLink "HalfMastModel" (104 : Nat) "HalfMastModel" "lines" "[I") ∈ TB := tb_t6 76 rfl rfl
theorem kw_1277 : (Jvm.Cond.fieldLink "HalfMastModel" (107 : Nat) "HalfMastModel" "facts" "[I") ∈ TB := tb_t6 77 rfl rfl
theorem kw_1278 : (Jvm.Cond.fieldLink "HalfMastModel" (110 : Nat) "HalfMastModel" "pile" "[I") ∈ TB := tb_t6 78 rfl rfl
theorem kw_1279 : (Jvm.Cond.fieldLink "HalfMastModel" (113 : Nat) "HalfMastModel" "state" "[I") ∈ TB := tb_t6 79 rfl rfl
theorem kw_1280 : (Jvm.Cond.fieldLink "HalfMastModel" (268 : Nat) "HalfMastModel" "undos" "I") ∈ TB := tb_t6 80 rfl rfl
theorem kw_1281 : (Jvm.Cond.fieldLink "HalfMastModel" (116 : Nat) "HalfMastModel" "isMarked" "[Z") ∈ TB := tb_t6 81 rfl rfl
theorem kw_1282 : (Jvm.Cond.fieldLink "HalfMastModel" (271 : Nat) "HalfMastModel" "weight" "I") ∈ TB := tb_t6 82 rfl rfl
theorem kw_1283 : (Jvm.Cond.fieldLink "HalfMastModel" (274 : Nat) "HalfMastModel" "rounding" "I") ∈ TB := tb_t6 83 rfl rfl
theorem kw_1284 : (Jvm.Cond.fieldLink "HalfMastModel" (120 : Nat) "HalfMastModel" "lacks" "[I") ∈ TB := tb_t6 84 rfl rfl
theorem kw_1285 : (Jvm.Cond.fieldLink "HalfMastModel" (123 : Nat) "HalfMastModel" "alikes" "[I") ∈ TB := tb_t6 85 rfl rfl
theorem kw_1286 : (Jvm.Cond.fieldLink "HalfMastModel" (356 : Nat) "HalfMastModel" "g" "J") ∈ TB := tb_t6 86 rfl rfl
theorem kw_1287 : (Jvm.Cond.lays "HalfMastModel" "HalfMastModel" "thrown" "I") ∈ TB := tb_t6 87 rfl rfl
theorem kw_1288 : (Jvm.Cond.soleField "HalfMastModel" "thrown") ∈ TB := tb_t6 88 rfl rfl
theorem kw_1289 : (Jvm.Cond.laysFinal "HalfMastModel" "HalfMastModel" "tape" "[I") ∈ TB := tb_t6 89 rfl rfl
theorem kw_1290 : (Jvm.Cond.soleField "HalfMastModel" "tape") ∈ TB := tb_t6 90 rfl rfl
theorem kw_1291 : (Jvm.Cond.lays "HalfMastModel" "HalfMastModel" "taped" "I") ∈ TB := tb_t6 91 rfl rfl
theorem kw_1292 : (Jvm.Cond.soleField "HalfMastModel" "taped") ∈ TB := tb_t6 92 rfl rfl
theorem kw_1293 : (Jvm.Cond.lays "HalfMastModel" "HalfMastModel" "size" "I") ∈ TB := tb_t6 93 rfl rfl
theorem kw_1294 : (Jvm.Cond.soleField "HalfMastModel" "size") ∈ TB := tb_t6 94 rfl rfl
theorem kw_1295 : (Jvm.Cond.laysFinal "HalfMastModel" "HalfMastModel" "sort" "[I") ∈ TB := tb_t6 95 rfl rfl
theorem kw_1296 : (Jvm.Cond.soleField "HalfMastModel" "sort") ∈ TB := tb_t6 96 rfl rfl
theorem kw_1297 : (Jvm.Cond.laysFinal "HalfMastModel" "HalfMastModel" "place" "[I") ∈ TB := tb_t6 97 rfl rfl
theorem kw_1298 : (Jvm.Cond.soleField "HalfMastModel" "place") ∈ TB := tb_t6 98 rfl rfl
theorem kw_1299 : (Jvm.Cond.laysFinal "HalfMastModel" "HalfMastModel" "value" "[J") ∈ TB := tb_t6 99 rfl rfl
theorem kw_1300 : (Jvm.Cond.soleField "HalfMastModel" "value") ∈ TB := tb_t6 100 rfl rfl
theorem kw_1301 : (Jvm.Cond.lays "HalfMastModel" "HalfMastModel" "at" "I") ∈ TB := tb_t6 101 rfl rfl
theorem kw_1302 : (Jvm.Cond.soleField "HalfMastModel" "at") ∈ TB := tb_t6 102 rfl rfl
theorem kw_1303 : (Jvm.Cond.lays "HalfMastModel" "HalfMastModel" "fault" "I") ∈ TB := tb_t6 103 rfl rfl
theorem kw_1304 : (Jvm.Cond.soleField "HalfMastModel" "fault") ∈ TB := tb_t6 104 rfl rfl
theorem kw_1305 : (Jvm.Cond.laysFinal "HalfMastModel" "HalfMastModel" "words" "[J") ∈ TB := tb_t6 105 rfl rfl
theorem kw_1306 : (Jvm.Cond.soleField "HalfMastModel" "words") ∈ TB := tb_t6 106 rfl rfl
theorem kw_1307 : (Jvm.Cond.laysFinal "HalfMastModel" "HalfMastModel" "towns" "[I") ∈ TB := tb_t6 107 rfl rfl
theorem kw_1308 : (Jvm.Cond.soleField "HalfMastModel" "towns") ∈ TB := tb_t6 108 rfl rfl
theorem kw_1309 : (Jvm.Cond.laysFinal "HalfMastModel" "HalfMastModel" "op" "[I") ∈ TB := tb_t6 109 rfl rfl
theorem kw_1310 : (Jvm.Cond.soleField "HalfMastModel" "op") ∈ TB := tb_t6 110 rfl rfl
theorem kw_1311 : (Jvm.Cond.laysFinal "HalfMastModel" "HalfMastModel" "arg" "[I") ∈ TB := tb_t6 111 rfl rfl
theorem kw_1312 : (Jvm.Cond.soleField "HalfMastModel" "arg") ∈ TB := tb_t6 112 rfl rfl
theorem kw_1313 : (Jvm.Cond.lays "HalfMastModel" "HalfMastModel" "codes" "I") ∈ TB := tb_t6 113 rfl rfl
theorem kw_1314 : (Jvm.Cond.soleField "HalfMastModel" "codes") ∈ TB := tb_t6 114 rfl rfl
theorem kw_1315 : (Jvm.Cond.laysFinal "HalfMastModel" "HalfMastModel" "names" "[J") ∈ TB := tb_t6 115 rfl rfl
theorem kw_1316 : (Jvm.Cond.soleField "HalfMastModel" "names") ∈ TB := tb_t6 116 rfl rfl
theorem kw_1317 : (Jvm.Cond.laysFinal "HalfMastModel" "HalfMastModel" "readNames" "[J") ∈ TB := tb_t6 117 rfl rfl
theorem kw_1318 : (Jvm.Cond.soleField "HalfMastModel" "readNames") ∈ TB := tb_t6 118 rfl rfl
theorem kw_1319 : (Jvm.Cond.lays "HalfMastModel" "HalfMastModel" "namesMany" "I") ∈ TB := tb_t6 119 rfl rfl
theorem kw_1320 : (Jvm.Cond.soleField "HalfMastModel" "namesMany") ∈ TB := tb_t6 120 rfl rfl
theorem kw_1321 : (Jvm.Cond.lays "HalfMastModel" "HalfMastModel" "readMany" "I") ∈ TB := tb_t6 121 rfl rfl
theorem kw_1322 : (Jvm.Cond.soleField "HalfMastModel" "readMany") ∈ TB := tb_t6 122 rfl rfl
theorem kw_1323 : (Jvm.Cond.lays "HalfMastModel" "HalfMastModel" "once" "I") ∈ TB := tb_t6 123 rfl rfl
theorem kw_1324 : (Jvm.Cond.soleField "HalfMastModel" "once") ∈ TB := tb_t6 124 rfl rfl
theorem kw_1325 : (Jvm.Cond.laysFinal "HalfMastModel" "HalfMastModel" "lines" "[I") ∈ TB := tb_t6 125 rfl rfl
theorem kw_1326 : (Jvm.Cond.soleField "HalfMastModel" "lines") ∈ TB := tb_t6 126 rfl rfl
theorem kw_1327 : (Jvm.Cond.laysFinal "HalfMastModel" "HalfMastModel" "facts" "[I") ∈ TB := tb_t6 127 rfl rfl
theorem kw_1328 : (Jvm.Cond.soleField "HalfMastModel" "facts") ∈ TB := tb_t6 128 rfl rfl
theorem kw_1329 : (Jvm.Cond.laysFinal "HalfMastModel" "HalfMastModel" "pile" "[I") ∈ TB := tb_t6 129 rfl rfl
theorem kw_1330 : (Jvm.Cond.soleField "HalfMastModel" "pile") ∈ TB := tb_t6 130 rfl rfl
theorem kw_1331 : (Jvm.Cond.laysFinal "HalfMastModel" "HalfMastModel" "state" "[I") ∈ TB := tb_t6 131 rfl rfl
theorem kw_1332 : (Jvm.Cond.soleField "HalfMastModel" "state") ∈ TB := tb_t6 132 rfl rfl
theorem kw_1333 : (Jvm.Cond.lays "HalfMastModel" "HalfMastModel" "undos" "I") ∈ TB := tb_t6 133 rfl rfl
theorem kw_1334 : (Jvm.Cond.soleField "HalfMastModel" "undos") ∈ TB := tb_t6 134 rfl rfl
theorem kw_1335 : (Jvm.Cond.laysFinal "HalfMastModel" "HalfMastModel" "isMarked" "[Z") ∈ TB := tb_t6 135 rfl rfl
theorem kw_1336 : (Jvm.Cond.soleField "HalfMastModel" "isMarked") ∈ TB := tb_t6 136 rfl rfl
theorem kw_1337 : (Jvm.Cond.lays "HalfMastModel" "HalfMastModel" "weight" "I") ∈ TB := tb_t6 137 rfl rfl
theorem kw_1338 : (Jvm.Cond.soleField "HalfMastModel" "weight") ∈ TB := tb_t6 138 rfl rfl
theorem kw_1339 : (Jvm.Cond.lays "HalfMastModel" "HalfMastModel" "rounding" "I") ∈ TB := tb_t6 139 rfl rfl
theorem kw_1340 : (Jvm.Cond.soleField "HalfMastModel" "rounding") ∈ TB := tb_t6 140 rfl rfl
theorem kw_1341 : (Jvm.Cond.laysFinal "HalfMastModel" "HalfMastModel" "lacks" "[I") ∈ TB := tb_t6 141 rfl rfl
theorem kw_1342 : (Jvm.Cond.soleField "HalfMastModel" "lacks") ∈ TB := tb_t6 142 rfl rfl
theorem kw_1343 : (Jvm.Cond.laysFinal "HalfMastModel" "HalfMastModel" "alikes" "[I") ∈ TB := tb_t6 143 rfl rfl
theorem kw_1344 : (Jvm.Cond.soleField "HalfMastModel" "alikes") ∈ TB := tb_t6 144 rfl rfl
theorem kw_1345 : (Jvm.Cond.lays "HalfMastModel" "HalfMastModel" "g" "J") ∈ TB := tb_t6 145 rfl rfl
theorem kw_1346 : (Jvm.Cond.soleField "HalfMastModel" "g") ∈ TB := tb_t6 146 rfl rfl
theorem kw_1347 : (Jvm.Cond.superclass "HalfMastModel" "java/lang/Object") ∈ TB := tb_t6 147 rfl rfl
theorem kw_1348 : (Jvm.Cond.arrayClass Jvm.ClassFile.FieldType.boolean) ∈ TB := tb_t6 148 rfl rfl
theorem kw_1349 : (Jvm.Cond.methodLink "HalfMastLaw" (30 : Nat) ({ cls := "HalfMastModel", name := "town", desc := "()I" } : Jvm.MethodName)) ∈ TB := tb_t6 149 rfl rfl
theorem kw_1350 : (Jvm.Cond.instanceMethod ({ cls := "HalfMastModel", name := "town", desc := "()I" } : Jvm.MethodName)) ∈ TB := tb_t6 150 rfl rfl
theorem kw_1351 : (Jvm.Cond.selects "HalfMastModel" ({ cls := "HalfMastModel", name := "town", desc := "()I" } : Jvm.MethodName) ({ cls := "HalfMastModel", name := "town", desc := "()I" } : Jvm.MethodName)) ∈ TB := tb_t6 151 rfl rfl
theorem kw_1352 : (Jvm.Cond.code ({ cls := "HalfMastModel", name := "town", desc := "()I" } : Jvm.MethodName) prog_14_method_26_code (2 : Nat) (Option.some Jvm.ClassFile.FieldType.int)) ∈ TB := tb_t6 152 rfl rfl
theorem kw_1353 : (Jvm.Cond.methodLink "HalfMastModel" (198 : Nat) ({ cls := "HalfMastModel", name := "cutAll", desc := "()V" } : Jvm.MethodName)) ∈ TB := tb_t6 153 rfl rfl
theorem kw_1355 : (Jvm.Cond.instanceMethod ({ cls := "HalfMastModel", name := "cutAll", desc := "()V" } : Jvm.MethodName)) ∈ TB := tb_t6 155 rfl rfl
theorem kw_1356 : (Jvm.Cond.code ({ cls := "HalfMastModel", name := "cutAll", desc := "()V" } : Jvm.MethodName) prog_14_method_9_code (7 : Nat) (Option.none : Option Jvm.ClassFile.FieldType)) ∈ TB := tb_t6 156 rfl rfl
theorem kw_1357 : (Jvm.Cond.methodLink "HalfMastModel" (133 : Nat) ({ cls := "HalfMastModel", name := "isLetter", desc := "(I)Z" } : Jvm.MethodName)) ∈ TB := tb_t6 157 rfl rfl
theorem kw_1358 : (Jvm.Cond.static ({ cls := "HalfMastModel", name := "isLetter", desc := "(I)Z" } : Jvm.MethodName)) ∈ TB := tb_t6 158 rfl rfl
theorem kw_1359 : (Jvm.Cond.code ({ cls := "HalfMastModel", name := "isLetter", desc := "(I)Z" } : Jvm.MethodName) prog_14_method_5_code (1 : Nat) (Option.some Jvm.ClassFile.FieldType.boolean)) ∈ TB := tb_t6 159 rfl rfl
theorem kw_1360 : (Jvm.Cond.constantLong "HalfMastModel" (140 : Nat) (37 : Int64)) ∈ TB := tb_t6 160 rfl rfl
theorem kw_1361 : (Jvm.Cond.methodLink "HalfMastModel" (142 : Nat) ({ cls := "HalfMastModel", name := "rank", desc := "(I)I" } : Jvm.MethodName)) ∈ TB := tb_t6 161 rfl rfl
theorem kw_1362 : (Jvm.Cond.static ({ cls := "HalfMastModel", name := "rank", desc := "(I)I" } : Jvm.MethodName)) ∈ TB := tb_t6 162 rfl rfl
theorem kw_1363 : (Jvm.Cond.code ({ cls := "HalfMastModel", name := "rank", desc := "(I)I" } : Jvm.MethodName) prog_14_method_7_code (1 : Nat) (Option.some Jvm.ClassFile.FieldType.int)) ∈ TB := tb_t6 163 rfl rfl
theorem kw_1364 : (Jvm.Cond.methodLink "HalfMastModel" (146 : Nat) ({ cls := "HalfMastModel", name := "isDigit", desc := "(I)Z" } : Jvm.MethodName)) ∈ TB := tb_t6 164 rfl rfl
theorem kw_1365 : (Jvm.Cond.static ({ cls := "HalfMastModel", name := "isDigit", desc := "(I)Z" } : Jvm.MethodName)) ∈ TB := tb_t6 165 rfl rfl
theorem kw_1366 : (Jvm.Cond.code ({ cls := "HalfMastModel", name := "isDigit", desc := "(I)Z" } : Jvm.MethodName) prog_14_method_6_code (1 : Nat) (Option.some Jvm.ClassFile.FieldType.boolean)) ∈ TB := tb_t6 166 rfl rfl
theorem kw_1367 : (Jvm.Cond.constantLong "HalfMastModel" (149 : Nat) (10 : Int64)) ∈ TB := tb_t6 167 rfl rfl
theorem kw_1368 : (Jvm.Cond.constantLong "HalfMastModel" (151 : Nat) (48 : Int64)) ∈ TB := tb_t6 168 rfl rfl
theorem kw_1369 : (Jvm.Cond.methodLink "HalfMastModel" (153 : Nat) ({ cls := "HalfMastModel", name := "isSignOf", desc := "(I)Z" } : Jvm.MethodName)) ∈ TB := tb_t6 169 rfl rfl
theorem kw_1370 : (Jvm.Cond.static ({ cls := "HalfMastModel", name := "isSignOf", desc := "(I)Z" } : Jvm.MethodName)) ∈ TB := tb_t6 170 rfl rfl
theorem kw_1371 : (Jvm.Cond.code ({ cls := "HalfMastModel", name := "isSignOf", desc := "(I)Z" } : Jvm.MethodName) prog_14_method_8_code (1 : Nat) (Option.some Jvm.ClassFile.FieldType.boolean)) ∈ TB := tb_t6 171 rfl rfl
theorem kw_1372 : (Jvm.Cond.methodLink "HalfMastModel" (207 : Nat) ({ cls := "HalfMastModel", name := "readLine", desc := "()V" } : Jvm.MethodName)) ∈ TB := tb_t6 172 rfl rfl
theorem kw_1374 : (Jvm.Cond.instanceMethod ({ cls := "HalfMastModel", name := "readLine", desc := "()V" } : Jvm.MethodName)) ∈ TB := tb_t6 174 rfl rfl
theorem kw_1375 : (Jvm.Cond.code ({ cls := "HalfMastModel", name := "readLine", desc := "()V" } : Jvm.MethodName) prog_14_method_27_code (4 : Nat) (Option.none : Option Jvm.ClassFile.FieldType)) ∈ TB := tb_t6 175 rfl rfl
theorem kw_1376 : (Jvm.Cond.methodLink "HalfMastModel" (168 : Nat) ({ cls := "HalfMastModel", name := "isWord", desc := "(I)Z" } : Jvm.MethodName)) ∈ TB := tb_t6 176 rfl rfl
theorem kw_1378 : (Jvm.Cond.instanceMethod ({ cls := "HalfMastModel", name := "isWord", desc := "(I)Z" } : Jvm.MethodName)) ∈ TB := tb_t6 178 rfl rfl
theorem kw_1379 : (Jvm.Cond.code ({ cls := "HalfMastModel", name := "isWord", desc := "(I)Z" } : Jvm.MethodName) prog_14_method_12_code (2 : Nat) (Option.some Jvm.ClassFile.FieldType.boolean)) ∈ TB := tb_t6 179 rfl rfl
theorem kw_1380 : (Jvm.Cond.methodLink "HalfMastModel" (213 : Nat) ({ cls := "HalfMastModel", name := "readPerson", desc := "()V" } : Jvm.MethodName)) ∈ TB := tb_t6 180 rfl rfl
theorem kw_1382 : (Jvm.Cond.instanceMethod ({ cls := "HalfMastModel", name := "readPerson", desc := "()V" } : Jvm.MethodName)) ∈ TB := tb_t6 182 rfl rfl
theorem kw_1383 : (Jvm.Cond.code ({ cls := "HalfMastModel", name := "readPerson", desc := "()V" } : Jvm.MethodName) prog_14_method_28_code (6 : Nat) (Option.none : Option Jvm.ClassFile.FieldType)) ∈ TB := tb_t6 183 rfl rfl
theorem kw_1384 : (Jvm.Cond.methodLink "HalfMastModel" (165 : Nat) ({ cls := "HalfMastModel", name := "wrong", desc := "(I)V" } : Jvm.MethodName)) ∈ TB := tb_t6 184 rfl rfl
theorem kw_1386 : (Jvm.Cond.instanceMethod ({ cls := "HalfMastModel", name := "wrong", desc := "(I)V" } : Jvm.MethodName)) ∈ TB := tb_t6 186 rfl rfl
theorem kw_1387 : (Jvm.Cond.code ({ cls := "HalfMastModel", name := "wrong", desc := "(I)V" } : Jvm.MethodName) prog_14_method_10_code (2 : Nat) (Option.none : Option Jvm.ClassFile.FieldType)) ∈ TB := tb_t6 187 rfl rfl
theorem kw_1388 : (Jvm.Cond.methodLink "HalfMastModel" (190 : Nat) ({ cls := "HalfMastModel", name := "isName", desc := "()Z" } : Jvm.MethodName)) ∈ TB := tb_t6 188 rfl rfl
theorem kw_1390 : (Jvm.Cond.instanceMethod ({ cls := "HalfMastModel", name := "isName", desc := "()Z" } : Jvm.MethodName)) ∈ TB := tb_t6 190 rfl rfl
theorem kw_1391 : (Jvm.Cond.code ({ cls := "HalfMastModel", name := "isName", desc := "()Z" } : Jvm.MethodName) prog_14_method_23_code (1 : Nat) (Option.some Jvm.ClassFile.FieldType.boolean)) ∈ TB := tb_t6 191 rfl rfl
theorem kw_1392 : (Jvm.Cond.methodLink "HalfMastModel" (181 : Nat) ({ cls := "HalfMastModel", name := "wordHere", desc := "(II)I" } : Jvm.MethodName)) ∈ TB := tb_t6 192 rfl rfl
theorem kw_1394 : (Jvm.Cond.instanceMethod ({ cls := "HalfMastModel", name := "wordHere", desc := "(II)I" } : Jvm.MethodName)) ∈ TB := tb_t6 194 rfl rfl
theorem kw_1395 : (Jvm.Cond.code ({ cls := "HalfMastModel", name := "wordHere", desc := "(II)I" } : Jvm.MethodName) prog_14_method_21_code (5 : Nat) (Option.some Jvm.ClassFile.FieldType.int)) ∈ TB := tb_t6 195 rfl rfl
theorem kw_1396 : (Jvm.Cond.methodLink "HalfMastModel" (194 : Nat) ({ cls := "HalfMastModel", name := "nameAt", desc := "(Z)I" } : Jvm.MethodName)) ∈ TB := tb_t6 196 rfl rfl
theorem kw_1398 : (Jvm.Cond.instanceMethod ({ cls := "HalfMastModel", name := "nameAt", desc := "(Z)I" } : Jvm.MethodName)) ∈ TB := tb_t6 198 rfl rfl
theorem kw_1399 : (Jvm.Cond.code ({ cls := "HalfMastModel", name := "nameAt", desc := "(Z)I" } : Jvm.MethodName) prog_14_method_24_code (3 : Nat) (Option.some Jvm.ClassFile.FieldType.int)) ∈ TB := tb_t6 199 rfl rfl
theorem kw_1400 : (Jvm.Cond.methodLink "HalfMastModel" (223 : Nat) ({ cls := "HalfMastModel", name := "takeOne", desc := "(II)I" } : Jvm.MethodName)) ∈ TB := tb_t6 200 rfl rfl
theorem kw_1402 : (Jvm.Cond.instanceMethod ({ cls := "HalfMastModel", name := "takeOne", desc := "(II)I" } : Jvm.MethodName)) ∈ TB := tb_t6 202 rfl rfl
theorem kw_1403 : (Jvm.Cond.code ({ cls := "HalfMastModel", name := "takeOne", desc := "(II)I" } : Jvm.MethodName) prog_14_method_22_code (4 : Nat) (Option.some Jvm.ClassFile.FieldType.int)) ∈ TB := tb_t6 203 rfl rfl
theorem kw_1404 : (Jvm.Cond.methodLink "HalfMastModel" (226 : Nat) ({ cls := "HalfMastModel", name := "takeAfter", desc := "(III)I" } : Jvm.MethodName)) ∈ TB := tb_t6 204 rfl rfl
theorem kw_1406 : (Jvm.Cond.instanceMethod ({ cls := "HalfMastModel", name := "takeAfter", desc := "(III)I" } : Jvm.MethodName)) ∈ TB := tb_t6 206 rfl rfl
theorem kw_1407 : (Jvm.Cond.code ({ cls := "HalfMastModel", name := "takeAfter", desc := "(III)I" } : Jvm.MethodName) prog_14_method_20_code (4 : Nat) (Option.some Jvm.ClassFile.FieldType.int)) ∈ TB := tb_t6 207 rfl rfl
theorem kw_1408 : (Jvm.Cond.methodLink "HalfMastModel" (174 : Nat) ({ cls := "HalfMastModel", name := "takeWord", desc := "(I)V" } : Jvm.MethodName)) ∈ TB := tb_t6 208 rfl rfl
theorem kw_1410 : (Jvm.Cond.instanceMethod ({ cls := "HalfMastModel", name := "takeWord", desc := "(I)V" } : Jvm.MethodName)) ∈ TB := tb_t6 210 rfl rfl
theorem kw_1411 : (Jvm.Cond.code ({ cls := "HalfMastModel", name := "takeWord", desc := "(I)V" } : Jvm.MethodName) prog_14_method_16_code (2 : Nat) (Option.none : Option Jvm.ClassFile.FieldType)) ∈ TB := tb_t6 211 rfl rfl
theorem kw_1412 : (Jvm.Cond.methodLink "HalfMastModel" (171 : Nat) ({ cls := "HalfMastModel", name := "hasWord", desc := "(I)Z" } : Jvm.MethodName)) ∈ TB := tb_t6 212 rfl rfl
theorem kw_1414 : (Jvm.Cond.instanceMethod ({ cls := "HalfMastModel", name := "hasWord", desc := "(I)Z" } : Jvm.MethodName)) ∈ TB := tb_t6 214 rfl rfl
theorem kw_1415 : (Jvm.Cond.code ({ cls := "HalfMastModel", name := "hasWord", desc := "(I)Z" } : Jvm.MethodName) prog_14_method_15_code (3 : Nat) (Option.some Jvm.ClassFile.FieldType.boolean)) ∈ TB := tb_t6 215 rfl rfl
theorem kw_1416 : (Jvm.Cond.methodLink "HalfMastModel" (177 : Nat) ({ cls := "HalfMastModel", name := "takeNumber", desc := "(II)I" } : Jvm.MethodName)) ∈ TB := tb_t6 216 rfl rfl
theorem kw_1418 : (Jvm.Cond.instanceMethod ({ cls := "HalfMastModel", name := "takeNumber", desc := "(II)I" } : Jvm.MethodName)) ∈ TB := tb_t6 218 rfl rfl
theorem kw_1419 : (Jvm.Cond.code ({ cls := "HalfMastModel", name := "takeNumber", desc := "(II)I" } : Jvm.MethodName) prog_14_method_19_code (3 : Nat) (Option.some Jvm.ClassFile.FieldType.int)) ∈ TB := tb_t6 219 rfl rfl
theorem kw_1420 : (Jvm.Cond.methodLink "HalfMastModel" (216 : Nat) ({ cls := "HalfMastModel", name := "takeTold", desc := "(ZI)I" } : Jvm.MethodName)) ∈ TB := tb_t6 220 rfl rfl
theorem kw_1422 : (Jvm.Cond.instanceMethod ({ cls := "HalfMastModel", name := "takeTold", desc := "(ZI)I" } : Jvm.MethodName)) ∈ TB := tb_t6 222 rfl rfl
theorem kw_1423 : (Jvm.Cond.code ({ cls := "HalfMastModel", name := "takeTold", desc := "(ZI)I" } : Jvm.MethodName) prog_14_method_25_code (4 : Nat) (Option.some Jvm.ClassFile.FieldType.int)) ∈ TB := tb_t6 223 rfl rfl
theorem kw_1424 : (Jvm.Cond.methodLink "HalfMastModel" (220 : Nat) ({ cls := "HalfMastModel", name := "readOnce", desc := "()V" } : Jvm.MethodName)) ∈ TB := tb_t6 224 rfl rfl
theorem kw_1426 : (Jvm.Cond.instanceMethod ({ cls := "HalfMastModel", name := "readOnce", desc := "()V" } : Jvm.MethodName)) ∈ TB := tb_t6 226 rfl rfl
theorem kw_1427 : (Jvm.Cond.code ({ cls := "HalfMastModel", name := "readOnce", desc := "()V" } : Jvm.MethodName) prog_14_method_29_code (2 : Nat) (Option.none : Option Jvm.ClassFile.FieldType)) ∈ TB := tb_t6 227 rfl rfl
theorem kw_1428 : (Jvm.Cond.methodLink "HalfMastModel" (230 : Nat) ({ cls := "HalfMastModel", name := "whole", desc := "(I)V" } : Jvm.MethodName)) ∈ TB := tb_t6 228 rfl rfl
theorem kw_1430 : (Jvm.Cond.instanceMethod ({ cls := "HalfMastModel", name := "whole", desc := "(I)V" } : Jvm.MethodName)) ∈ TB := tb_t6 230 rfl rfl
theorem kw_1431 : (Jvm.Cond.code ({ cls := "HalfMastModel", name := "whole", desc := "(I)V" } : Jvm.MethodName) prog_14_method_32_code (3 : Nat) (Option.none : Option Jvm.ClassFile.FieldType)) ∈ TB := tb_t6 231 rfl rfl
theorem kw_1432 : (Jvm.Cond.methodLink "HalfMastModel" (237 : Nat) ({ cls := "HalfMastModel", name := "test", desc := "(I)V" } : Jvm.MethodName)) ∈ TB := tb_t6 232 rfl rfl
theorem kw_1434 : (Jvm.Cond.instanceMethod ({ cls := "HalfMastModel", name := "test", desc := "(I)V" } : Jvm.MethodName)) ∈ TB := tb_t6 234 rfl rfl
theorem kw_1435 : (Jvm.Cond.code ({ cls := "HalfMastModel", name := "test", desc := "(I)V" } : Jvm.MethodName) prog_14_method_33_code (3 : Nat) (Option.none : Option Jvm.ClassFile.FieldType)) ∈ TB := tb_t6 235 rfl rfl
theorem kw_1436 : (Jvm.Cond.methodLink "HalfMastModel" (240 : Nat) ({ cls := "HalfMastModel", name := "sums", desc := "(I)V" } : Jvm.MethodName)) ∈ TB := tb_t6 236 rfl rfl
theorem kw_1438 : (Jvm.Cond.instanceMethod ({ cls := "HalfMastModel", name := "sums", desc := "(I)V" } : Jvm.MethodName)) ∈ TB := tb_t6 238 rfl rfl
theorem kw_1439 : (Jvm.Cond.code ({ cls := "HalfMastModel", name := "sums", desc := "(I)V" } : Jvm.MethodName) prog_14_method_34_code (3 : Nat) (Option.none : Option Jvm.ClassFile.FieldType)) ∈ TB := tb_t6 239 rfl rfl
theorem kw_1440 : (Jvm.Cond.methodLink "HalfMastModel" (246 : Nat) ({ cls := "HalfMastModel", name := "products", desc := "(I)V" } : Jvm.MethodName)) ∈ TB := tb_t7 0 rfl rfl
theorem kw_1442 : (Jvm.Cond.instanceMethod ({ cls := "HalfMastModel", name := "products", desc := "(I)V" } : Jvm.MethodName)) ∈ TB := tb_t7 2 rfl rfl
theorem kw_1443 : (Jvm.Cond.code ({ cls := "HalfMastModel", name := "products", desc := "(I)V" } : Jvm.MethodName) prog_14_method_35_code (2 : Nat) (Option.none : Option Jvm.ClassFile.FieldType)) ∈ TB := tb_t7 3 rfl rfl
theorem kw_1444 : (Jvm.Cond.methodLink "HalfMastModel" (249 : Nat) ({ cls := "HalfMastModel", name := "takePart", desc := "(I)V" } : Jvm.MethodName)) ∈ TB := tb_t7 4 rfl rfl
theorem kw_1446 : (Jvm.Cond.instanceMethod ({ cls := "HalfMastModel", name := "takePart", desc := "(I)V" } : Jvm.MethodName)) ∈ TB := tb_t7 6 rfl rfl
theorem kw_1447 : (Jvm.Cond.code ({ cls := "HalfMastModel", name := "takePart", desc := "(I)V" } : Jvm.MethodName) prog_14_method_36_code (4 : Nat) (Option.none : Option Jvm.ClassFile.FieldType)) ∈ TB := tb_t7 7 rfl rfl
theorem kw_1448 : (Jvm.Cond.methodLink "HalfMastModel" (162 : Nat) ({ cls := "HalfMastModel", name := "isSign", desc := "(I)Z" } : Jvm.MethodName)) ∈ TB := tb_t7 8 rfl rfl
theorem kw_1450 : (Jvm.Cond.instanceMethod ({ cls := "HalfMastModel", name := "isSign", desc := "(I)Z" } : Jvm.MethodName)) ∈ TB := tb_t7 10 rfl rfl
theorem kw_1451 : (Jvm.Cond.code ({ cls := "HalfMastModel", name := "isSign", desc := "(I)Z" } : Jvm.MethodName) prog_14_method_11_code (2 : Nat) (Option.some Jvm.ClassFile.FieldType.boolean)) ∈ TB := tb_t7 11 rfl rfl
theorem kw_1452 : (Jvm.Cond.methodLink "HalfMastModel" (233 : Nat) ({ cls := "HalfMastModel", name := "emit", desc := "(II)V" } : Jvm.MethodName)) ∈ TB := tb_t7 12 rfl rfl
theorem kw_1454 : (Jvm.Cond.instanceMethod ({ cls := "HalfMastModel", name := "emit", desc := "(II)V" } : Jvm.MethodName)) ∈ TB := tb_t7 14 rfl rfl
theorem kw_1455 : (Jvm.Cond.code ({ cls := "HalfMastModel", name := "emit", desc := "(II)V" } : Jvm.MethodName) prog_14_method_31_code (3 : Nat) (Option.none : Option Jvm.ClassFile.FieldType)) ∈ TB := tb_t7 15 rfl rfl
theorem kw_1456 : (Jvm.Cond.methodLink "HalfMastModel" (243 : Nat) ({ cls := "HalfMastModel", name := "hasSign", desc := "(I)Z" } : Jvm.MethodName)) ∈ TB := tb_t7 16 rfl rfl
theorem kw_1458 : (Jvm.Cond.instanceMethod ({ cls := "HalfMastModel", name := "hasSign", desc := "(I)Z" } : Jvm.MethodName)) ∈ TB := tb_t7 18 rfl rfl
theorem kw_1459 : (Jvm.Cond.code ({ cls := "HalfMastModel", name := "hasSign", desc := "(I)Z" } : Jvm.MethodName) prog_14_method_14_code (3 : Nat) (Option.some Jvm.ClassFile.FieldType.boolean)) ∈ TB := tb_t7 19 rfl rfl
theorem kw_1460 : (Jvm.Cond.methodLink "HalfMastModel" (210 : Nat) ({ cls := "HalfMastModel", name := "takeSign", desc := "(I)V" } : Jvm.MethodName)) ∈ TB := tb_t7 20 rfl rfl
theorem kw_1462 : (Jvm.Cond.instanceMethod ({ cls := "HalfMastModel", name := "takeSign", desc := "(I)V" } : Jvm.MethodName)) ∈ TB := tb_t7 22 rfl rfl
theorem kw_1463 : (Jvm.Cond.code ({ cls := "HalfMastModel", name := "takeSign", desc := "(I)V" } : Jvm.MethodName) prog_14_method_13_code (2 : Nat) (Option.none : Option Jvm.ClassFile.FieldType)) ∈ TB := tb_t7 23 rfl rfl
theorem kw_1464 : (Jvm.Cond.methodLink "HalfMastLaw" (34 : Nat) ({ cls := "HalfMastModel", name := "year", desc := "()I" } : Jvm.MethodName)) ∈ TB := tb_t7 24 rfl rfl
theorem kw_1465 : (Jvm.Cond.instanceMethod ({ cls := "HalfMastModel", name := "year", desc := "()I" } : Jvm.MethodName)) ∈ TB := tb_t7 25 rfl rfl
theorem kw_1466 : (Jvm.Cond.selects "HalfMastModel" ({ cls := "HalfMastModel", name := "year", desc := "()I" } : Jvm.MethodName) ({ cls := "HalfMastModel", name := "year", desc := "()I" } : Jvm.MethodName)) ∈ TB := tb_t7 26 rfl rfl
theorem kw_1467 : (Jvm.Cond.code ({ cls := "HalfMastModel", name := "year", desc := "()I" } : Jvm.MethodName) prog_14_method_30_code (4 : Nat) (Option.some Jvm.ClassFile.FieldType.int)) ∈ TB := tb_t7 27 rfl rfl
theorem kw_1468 : (Jvm.Cond.methodLink "HalfMastLaw" (38 : Nat) ({ cls := "HalfMastModel", name := "high", desc := "()I" } : Jvm.MethodName)) ∈ TB := tb_t7 28 rfl rfl
theorem kw_1469 : (Jvm.Cond.instanceMethod ({ cls := "HalfMastModel", name := "high", desc := "()I" } : Jvm.MethodName)) ∈ TB := tb_t7 29 rfl rfl
theorem kw_1470 : (Jvm.Cond.selects "HalfMastModel" ({ cls := "HalfMastModel", name := "high", desc := "()I" } : Jvm.MethodName) ({ cls := "HalfMastModel", name := "high", desc := "()I" } : Jvm.MethodName)) ∈ TB := tb_t7 30 rfl rfl
theorem kw_1471 : (Jvm.Cond.code ({ cls := "HalfMastModel", name := "high", desc := "()I" } : Jvm.MethodName) prog_14_method_56_code (1 : Nat) (Option.some Jvm.ClassFile.FieldType.int)) ∈ TB := tb_t7 31 rfl rfl
theorem kw_1472 : (Jvm.Cond.methodLink "HalfMastModel" (293 : Nat) ({ cls := "HalfMastModel", name := "highOf", desc := "(I)I" } : Jvm.MethodName)) ∈ TB := tb_t7 32 rfl rfl
theorem kw_1474 : (Jvm.Cond.instanceMethod ({ cls := "HalfMastModel", name := "highOf", desc := "(I)I" } : Jvm.MethodName)) ∈ TB := tb_t7 34 rfl rfl
theorem kw_1475 : (Jvm.Cond.code ({ cls := "HalfMastModel", name := "highOf", desc := "(I)I" } : Jvm.MethodName) prog_14_method_51_code (2 : Nat) (Option.some Jvm.ClassFile.FieldType.int)) ∈ TB := tb_t7 35 rfl rfl
theorem kw_1476 : (Jvm.Cond.methodLink "HalfMastModel" (287 : Nat) ({ cls := "HalfMastModel", name := "weighsAll", desc := "(I)I" } : Jvm.MethodName)) ∈ TB := tb_t7 36 rfl rfl
theorem kw_1478 : (Jvm.Cond.instanceMethod ({ cls := "HalfMastModel", name := "weighsAll", desc := "(I)I" } : Jvm.MethodName)) ∈ TB := tb_t7 38 rfl rfl
theorem kw_1479 : (Jvm.Cond.code ({ cls := "HalfMastModel", name := "weighsAll", desc := "(I)I" } : Jvm.MethodName) prog_14_method_49_code (4 : Nat) (Option.some Jvm.ClassFile.FieldType.int)) ∈ TB := tb_t7 39 rfl rfl
theorem kw_1480 : (Jvm.Cond.methodLink "HalfMastModel" (281 : Nat) ({ cls := "HalfMastModel", name := "weighsOf", desc := "(II)I" } : Jvm.MethodName)) ∈ TB := tb_t7 40 rfl rfl
theorem kw_1482 : (Jvm.Cond.instanceMethod ({ cls := "HalfMastModel", name := "weighsOf", desc := "(II)I" } : Jvm.MethodName)) ∈ TB := tb_t7 42 rfl rfl
theorem kw_1483 : (Jvm.Cond.code ({ cls := "HalfMastModel", name := "weighsOf", desc := "(II)I" } : Jvm.MethodName) prog_14_method_48_code (5 : Nat) (Option.some Jvm.ClassFile.FieldType.int)) ∈ TB := tb_t7 43 rfl rfl
theorem kw_1484 : (Jvm.Cond.methodLink "HalfMastModel" (290 : Nat) ({ cls := "HalfMastModel", name := "highBy", desc := "(I)I" } : Jvm.MethodName)) ∈ TB := tb_t7 44 rfl rfl
theorem kw_1486 : (Jvm.Cond.instanceMethod ({ cls := "HalfMastModel", name := "highBy", desc := "(I)I" } : Jvm.MethodName)) ∈ TB := tb_t7 46 rfl rfl
theorem kw_1487 : (Jvm.Cond.code ({ cls := "HalfMastModel", name := "highBy", desc := "(I)I" } : Jvm.MethodName) prog_14_method_50_code (3 : Nat) (Option.some Jvm.ClassFile.FieldType.int)) ∈ TB := tb_t7 47 rfl rfl
theorem kw_1488 : (Jvm.Cond.methodLink "HalfMastModel" (284 : Nat) ({ cls := "HalfMastModel", name := "kept", desc := "(III)I" } : Jvm.MethodName)) ∈ TB := tb_t7 48 rfl rfl
theorem kw_1489 : (Jvm.Cond.static ({ cls := "HalfMastModel", name := "kept", desc := "(III)I" } : Jvm.MethodName)) ∈ TB := tb_t7 49 rfl rfl
theorem kw_1490 : (Jvm.Cond.code ({ cls := "HalfMastModel", name := "kept", desc := "(III)I" } : Jvm.MethodName) prog_14_method_47_code (3 : Nat) (Option.some Jvm.ClassFile.FieldType.int)) ∈ TB := tb_t7 50 rfl rfl
theorem kw_1491 : (Jvm.Cond.methodLink "HalfMastLaw" (43 : Nat) ({ cls := "HalfMastModel", name := "person", desc := "(II)I" } : Jvm.MethodName)) ∈ TB := tb_t7 51 rfl rfl
theorem kw_1492 : (Jvm.Cond.instanceMethod ({ cls := "HalfMastModel", name := "person", desc := "(II)I" } : Jvm.MethodName)) ∈ TB := tb_t7 52 rfl rfl
theorem kw_1493 : (Jvm.Cond.selects "HalfMastModel" ({ cls := "HalfMastModel", name := "person", desc := "(II)I" } : Jvm.MethodName) ({ cls := "HalfMastModel", name := "person", desc := "(II)I" } : Jvm.MethodName)) ∈ TB := tb_t7 53 rfl rfl
theorem kw_1494 : (Jvm.Cond.code ({ cls := "HalfMastModel", name := "person", desc := "(II)I" } : Jvm.MethodName) prog_14_method_57_code (3 : Nat) (Option.some Jvm.ClassFile.FieldType.int)) ∈ TB := tb_t7 54 rfl rfl
theorem kw_1495 : (Jvm.Cond.methodLink "HalfMastModel" (303 : Nat) ({ cls := "HalfMastModel", name := "isPerson", desc := "(I)Z" } : Jvm.MethodName)) ∈ TB := tb_t7 55 rfl rfl
theorem kw_1497 : (Jvm.Cond.instanceMethod ({ cls := "HalfMastModel", name := "isPerson", desc := "(I)Z" } : Jvm.MethodName)) ∈ TB := tb_t7 57 rfl rfl
theorem kw_1498 : (Jvm.Cond.code ({ cls := "HalfMastModel", name := "isPerson", desc := "(I)Z" } : Jvm.MethodName) prog_14_method_46_code (2 : Nat) (Option.some Jvm.ClassFile.FieldType.boolean)) ∈ TB := tb_t7 58 rfl rfl
theorem kw_1499 : (Jvm.Cond.methodLink "HalfMastModel" (306 : Nat) ({ cls := "HalfMastModel", name := "within", desc := "(III)Z" } : Jvm.MethodName)) ∈ TB := tb_t7 59 rfl rfl
theorem kw_1500 : (Jvm.Cond.static ({ cls := "HalfMastModel", name := "within", desc := "(III)Z" } : Jvm.MethodName)) ∈ TB := tb_t7 60 rfl rfl
theorem kw_1501 : (Jvm.Cond.code ({ cls := "HalfMastModel", name := "within", desc := "(III)Z" } : Jvm.MethodName) prog_14_method_17_code (3 : Nat) (Option.some Jvm.ClassFile.FieldType.boolean)) ∈ TB := tb_t7 61 rfl rfl
theorem kw_1502 : (Jvm.Cond.methodLink "HalfMastLaw" (47 : Nat) ({ cls := "HalfMastModel", name := "lose", desc := "(II)I" } : Jvm.MethodName)) ∈ TB := tb_t7 62 rfl rfl
theorem kw_1503 : (Jvm.Cond.instanceMethod ({ cls := "HalfMastModel", name := "lose", desc := "(II)I" } : Jvm.MethodName)) ∈ TB := tb_t7 63 rfl rfl
theorem kw_1504 : (Jvm.Cond.selects "HalfMastModel" ({ cls := "HalfMastModel", name := "lose", desc := "(II)I" } : Jvm.MethodName) ({ cls := "HalfMastModel", name := "lose", desc := "(II)I" } : Jvm.MethodName)) ∈ TB := tb_t7 64 rfl rfl
theorem kw_1505 : (Jvm.Cond.code ({ cls := "HalfMastModel", name := "lose", desc := "(II)I" } : Jvm.MethodName) prog_14_method_58_code (3 : Nat) (Option.some Jvm.ClassFile.FieldType.int)) ∈ TB := tb_t7 65 rfl rfl
theorem kw_1506 : (Jvm.Cond.methodLink "HalfMastModel" (309 : Nat) ({ cls := "HalfMastModel", name := "keeps", desc := "()V" } : Jvm.MethodName)) ∈ TB := tb_t7 66 rfl rfl
theorem kw_1508 : (Jvm.Cond.instanceMethod ({ cls := "HalfMastModel", name := "keeps", desc := "()V" } : Jvm.MethodName)) ∈ TB := tb_t7 68 rfl rfl
theorem kw_1509 : (Jvm.Cond.code ({ cls := "HalfMastModel", name := "keeps", desc := "()V" } : Jvm.MethodName) prog_14_method_43_code (2 : Nat) (Option.none : Option Jvm.ClassFile.FieldType)) ∈ TB := tb_t7 69 rfl rfl
theorem kw_1510 : (Jvm.Cond.methodLink "HalfMastModel" (277 : Nat) ({ cls := "HalfMastModel", name := "copies", desc := "(III)V" } : Jvm.MethodName)) ∈ TB := tb_t7 70 rfl rfl
theorem kw_1512 : (Jvm.Cond.instanceMethod ({ cls := "HalfMastModel", name := "copies", desc := "(III)V" } : Jvm.MethodName)) ∈ TB := tb_t7 72 rfl rfl
theorem kw_1513 : (Jvm.Cond.code ({ cls := "HalfMastModel", name := "copies", desc := "(III)V" } : Jvm.MethodName) prog_14_method_39_code (5 : Nat) (Option.none : Option Jvm.ClassFile.FieldType)) ∈ TB := tb_t7 73 rfl rfl
theorem kw_1514 : (Jvm.Cond.methodLink "HalfMastModel" (312 : Nat) ({ cls := "HalfMastModel", name := "loses", desc := "(III)V" } : Jvm.MethodName)) ∈ TB := tb_t7 74 rfl rfl
theorem kw_1516 : (Jvm.Cond.instanceMethod ({ cls := "HalfMastModel", name := "loses", desc := "(III)V" } : Jvm.MethodName)) ∈ TB := tb_t7 76 rfl rfl
theorem kw_1517 : (Jvm.Cond.code ({ cls := "HalfMastModel", name := "loses", desc := "(III)V" } : Jvm.MethodName) prog_14_method_52_code (4 : Nat) (Option.none : Option Jvm.ClassFile.FieldType)) ∈ TB := tb_t7 77 rfl rfl
theorem kw_1518 : (Jvm.Cond.methodLink "HalfMastLaw" (51 : Nat) ({ cls := "HalfMastModel", name := "get", desc := "(II)I" } : Jvm.MethodName)) ∈ TB := tb_t7 78 rfl rfl
theorem kw_1519 : (Jvm.Cond.instanceMethod ({ cls := "HalfMastModel", name := "get", desc := "(II)I" } : Jvm.MethodName)) ∈ TB := tb_t7 79 rfl rfl
theorem kw_1520 : (Jvm.Cond.selects "HalfMastModel" ({ cls := "HalfMastModel", name := "get", desc := "(II)I" } : Jvm.MethodName) ({ cls := "HalfMastModel", name := "get", desc := "(II)I" } : Jvm.MethodName)) ∈ TB := tb_t7 80 rfl rfl
theorem kw_1521 : (Jvm.Cond.code ({ cls := "HalfMastModel", name := "get", desc := "(II)I" } : Jvm.MethodName) prog_14_method_59_code (3 : Nat) (Option.some Jvm.ClassFile.FieldType.int)) ∈ TB := tb_t7 81 rfl rfl
theorem kw_1522 : (Jvm.Cond.methodLink "HalfMastLaw" (56 : Nat) ({ cls := "HalfMastModel", name := "spare", desc := "(I)I" } : Jvm.MethodName)) ∈ TB := tb_t7 82 rfl rfl
theorem kw_1523 : (Jvm.Cond.instanceMethod ({ cls := "HalfMastModel", name := "spare", desc := "(I)I" } : Jvm.MethodName)) ∈ TB := tb_t7 83 rfl rfl
theorem kw_1524 : (Jvm.Cond.selects "HalfMastModel" ({ cls := "HalfMastModel", name := "spare", desc := "(I)I" } : Jvm.MethodName) ({ cls := "HalfMastModel", name := "spare", desc := "(I)I" } : Jvm.MethodName)) ∈ TB := tb_t7 84 rfl rfl
theorem kw_1525 : (Jvm.Cond.code ({ cls := "HalfMastModel", name := "spare", desc := "(I)I" } : Jvm.MethodName) prog_14_method_60_code (3 : Nat) (Option.some Jvm.ClassFile.FieldType.int)) ∈ TB := tb_t7 85 rfl rfl
theorem kw_1526 : (Jvm.Cond.methodLink "HalfMastLaw" (61 : Nat) ({ cls := "HalfMastModel", name := "feel", desc := "(II)Z" } : Jvm.MethodName)) ∈ TB := tb_t7 86 rfl rfl
theorem kw_1527 : (Jvm.Cond.instanceMethod ({ cls := "HalfMastModel", name := "feel", desc := "(II)Z" } : Jvm.MethodName)) ∈ TB := tb_t7 87 rfl rfl
theorem kw_1528 : (Jvm.Cond.selects "HalfMastModel" ({ cls := "HalfMastModel", name := "feel", desc := "(II)Z" } : Jvm.MethodName) ({ cls := "HalfMastModel", name := "feel", desc := "(II)Z" } : Jvm.MethodName)) ∈ TB := tb_t7 88 rfl rfl
theorem kw_1529 : (Jvm.Cond.code ({ cls := "HalfMastModel", name := "feel", desc := "(II)Z" } : Jvm.MethodName) prog_14_method_61_code (3 : Nat) (Option.some Jvm.ClassFile.FieldType.boolean)) ∈ TB := tb_t7 89 rfl rfl
theorem kw_1530 : (Jvm.Cond.methodLink "HalfMastLaw" (65 : Nat) ({ cls := "HalfMastModel", name := "day", desc := "()I" } : Jvm.MethodName)) ∈ TB := tb_t7 90 rfl rfl
theorem kw_1531 : (Jvm.Cond.instanceMethod ({ cls := "HalfMastModel", name := "day", desc := "()I" } : Jvm.MethodName)) ∈ TB := tb_t7 91 rfl rfl
theorem kw_1532 : (Jvm.Cond.selects "HalfMastModel" ({ cls := "HalfMastModel", name := "day", desc := "()I" } : Jvm.MethodName) ({ cls := "HalfMastModel", name := "day", desc := "()I" } : Jvm.MethodName)) ∈ TB := tb_t7 92 rfl rfl
theorem kw_1533 : (Jvm.Cond.code ({ cls := "HalfMastModel", name := "day", desc := "()I" } : Jvm.MethodName) prog_14_method_62_code (2 : Nat) (Option.some Jvm.ClassFile.FieldType.int)) ∈ TB := tb_t7 93 rfl rfl
theorem kw_1534 : (Jvm.Cond.methodLink "HalfMastModel" (315 : Nat) ({ cls := "HalfMastModel", name := "passes", desc := "(I)Z" } : Jvm.MethodName)) ∈ TB := tb_t7 94 rfl rfl
theorem kw_1536 : (Jvm.Cond.instanceMethod ({ cls := "HalfMastModel", name := "passes", desc := "(I)Z" } : Jvm.MethodName)) ∈ TB := tb_t7 96 rfl rfl
theorem kw_1537 : (Jvm.Cond.code ({ cls := "HalfMastModel", name := "passes", desc := "(I)Z" } : Jvm.MethodName) prog_14_method_54_code (8 : Nat) (Option.some Jvm.ClassFile.FieldType.boolean)) ∈ TB := tb_t7 97 rfl rfl
theorem kw_1538 : (Jvm.Cond.methodLink "HalfMastModel" (296 : Nat) ({ cls := "HalfMastModel", name := "doesFeel", desc := "(III)Z" } : Jvm.MethodName)) ∈ TB := tb_t7 98 rfl rfl
theorem kw_1540 : (Jvm.Cond.instanceMethod ({ cls := "HalfMastModel", name := "doesFeel", desc := "(III)Z" } : Jvm.MethodName)) ∈ TB := tb_t7 100 rfl rfl
theorem kw_1541 : (Jvm.Cond.code ({ cls := "HalfMastModel", name := "doesFeel", desc := "(III)Z" } : Jvm.MethodName) prog_14_method_53_code (4 : Nat) (Option.some Jvm.ClassFile.FieldType.boolean)) ∈ TB := tb_t7 101 rfl rfl
theorem kw_1542 : (Jvm.Cond.methodLink "HalfMastModel" (300 : Nat) ({ cls := "HalfMastModel", name := "worthAt", desc := "(I)I" } : Jvm.MethodName)) ∈ TB := tb_t7 102 rfl rfl
theorem kw_1544 : (Jvm.Cond.instanceMethod ({ cls := "HalfMastModel", name := "worthAt", desc := "(I)I" } : Jvm.MethodName)) ∈ TB := tb_t7 104 rfl rfl
theorem kw_1545 : (Jvm.Cond.code ({ cls := "HalfMastModel", name := "worthAt", desc := "(I)I" } : Jvm.MethodName) prog_14_method_37_code (5 : Nat) (Option.some Jvm.ClassFile.FieldType.int)) ∈ TB := tb_t7 105 rfl rfl
theorem kw_1546 : (Jvm.Cond.methodLink "HalfMastModel" (252 : Nat) ({ cls := "HalfMastModel", name := "both", desc := "(III)I" } : Jvm.MethodName)) ∈ TB := tb_t7 106 rfl rfl
theorem kw_1547 : (Jvm.Cond.static ({ cls := "HalfMastModel", name := "both", desc := "(III)I" } : Jvm.MethodName)) ∈ TB := tb_t7 107 rfl rfl
theorem kw_1548 : (Jvm.Cond.code ({ cls := "HalfMastModel", name := "both", desc := "(III)I" } : Jvm.MethodName) prog_14_method_38_code (3 : Nat) (Option.some Jvm.ClassFile.FieldType.int)) ∈ TB := tb_t7 108 rfl rfl
theorem kw_1549 : (Jvm.Cond.methodLink "HalfMastLaw" (70 : Nat) ({ cls := "HalfMastModel", name := "undo", desc := "()Z" } : Jvm.MethodName)) ∈ TB := tb_t7 109 rfl rfl
theorem kw_1550 : (Jvm.Cond.instanceMethod ({ cls := "HalfMastModel", name := "undo", desc := "()Z" } : Jvm.MethodName)) ∈ TB := tb_t7 110 rfl rfl
theorem kw_1551 : (Jvm.Cond.selects "HalfMastModel" ({ cls := "HalfMastModel", name := "undo", desc := "()Z" } : Jvm.MethodName) ({ cls := "HalfMastModel", name := "undo", desc := "()Z" } : Jvm.MethodName)) ∈ TB := tb_t7 111 rfl rfl
theorem kw_1552 : (Jvm.Cond.code ({ cls := "HalfMastModel", name := "undo", desc := "()Z" } : Jvm.MethodName) prog_14_method_63_code (1 : Nat) (Option.some Jvm.ClassFile.FieldType.boolean)) ∈ TB := tb_t7 112 rfl rfl
theorem kw_1553 : (Jvm.Cond.methodLink "HalfMastLaw" (74 : Nat) ({ cls := "HalfMastModel", name := "judged", desc := "(I)I" } : Jvm.MethodName)) ∈ TB := tb_t7 113 rfl rfl
theorem kw_1554 : (Jvm.Cond.instanceMethod ({ cls := "HalfMastModel", name := "judged", desc := "(I)I" } : Jvm.MethodName)) ∈ TB := tb_t7 114 rfl rfl
theorem kw_1555 : (Jvm.Cond.selects "HalfMastModel" ({ cls := "HalfMastModel", name := "judged", desc := "(I)I" } : Jvm.MethodName) ({ cls := "HalfMastModel", name := "judged", desc := "(I)I" } : Jvm.MethodName)) ∈ TB := tb_t7 115 rfl rfl
theorem kw_1556 : (Jvm.Cond.code ({ cls := "HalfMastModel", name := "judged", desc := "(I)I" } : Jvm.MethodName) prog_14_method_64_code (10 : Nat) (Option.some Jvm.ClassFile.FieldType.int)) ∈ TB := tb_t7 116 rfl rfl
theorem kw_1557 : (Jvm.Cond.methodLink "HalfMastLaw" (78 : Nat) ({ cls := "HalfMastModel", name := "later", desc := "(I)I" } : Jvm.MethodName)) ∈ TB := tb_t7 117 rfl rfl
theorem kw_1558 : (Jvm.Cond.instanceMethod ({ cls := "HalfMastModel", name := "later", desc := "(I)I" } : Jvm.MethodName)) ∈ TB := tb_t7 118 rfl rfl
theorem kw_1559 : (Jvm.Cond.selects "HalfMastModel" ({ cls := "HalfMastModel", name := "later", desc := "(I)I" } : Jvm.MethodName) ({ cls := "HalfMastModel", name := "later", desc := "(I)I" } : Jvm.MethodName)) ∈ TB := tb_t7 119 rfl rfl
theorem kw_1560 : (Jvm.Cond.code ({ cls := "HalfMastModel", name := "later", desc := "(I)I" } : Jvm.MethodName) prog_14_method_67_code (2 : Nat) (Option.some Jvm.ClassFile.FieldType.int)) ∈ TB := tb_t7 120 rfl rfl
theorem kw_1561 : (Jvm.Cond.methodLink "HalfMastModel" (318 : Nat) ({ cls := "HalfMastModel", name := "triesNow", desc := "()V" } : Jvm.MethodName)) ∈ TB := tb_t7 121 rfl rfl
theorem kw_1563 : (Jvm.Cond.instanceMethod ({ cls := "HalfMastModel", name := "triesNow", desc := "()V" } : Jvm.MethodName)) ∈ TB := tb_t7 123 rfl rfl
theorem kw_1564 : (Jvm.Cond.code ({ cls := "HalfMastModel", name := "triesNow", desc := "()V" } : Jvm.MethodName) prog_14_method_65_code (1 : Nat) (Option.none : Option Jvm.ClassFile.FieldType)) ∈ TB := tb_t7 124 rfl rfl
theorem kw_1565 : (Jvm.Cond.methodLink "HalfMastModel" (321 : Nat) ({ cls := "HalfMastModel", name := "highBehind", desc := "(I)I" } : Jvm.MethodName)) ∈ TB := tb_t7 125 rfl rfl
theorem kw_1567 : (Jvm.Cond.instanceMethod ({ cls := "HalfMastModel", name := "highBehind", desc := "(I)I" } : Jvm.MethodName)) ∈ TB := tb_t7 127 rfl rfl
theorem kw_1568 : (Jvm.Cond.code ({ cls := "HalfMastModel", name := "highBehind", desc := "(I)I" } : Jvm.MethodName) prog_14_method_66_code (3 : Nat) (Option.some Jvm.ClassFile.FieldType.int)) ∈ TB := tb_t7 128 rfl rfl
theorem kw_1569 : (Jvm.Cond.methodLink "HalfMastLaw" (82 : Nat) ({ cls := "HalfMastModel", name := "sill", desc := "(I)I" } : Jvm.MethodName)) ∈ TB := tb_t7 129 rfl rfl
theorem kw_1570 : (Jvm.Cond.instanceMethod ({ cls := "HalfMastModel", name := "sill", desc := "(I)I" } : Jvm.MethodName)) ∈ TB := tb_t7 130 rfl rfl
theorem kw_1571 : (Jvm.Cond.selects "HalfMastModel" ({ cls := "HalfMastModel", name := "sill", desc := "(I)I" } : Jvm.MethodName) ({ cls := "HalfMastModel", name := "sill", desc := "(I)I" } : Jvm.MethodName)) ∈ TB := tb_t7 131 rfl rfl
theorem kw_1572 : (Jvm.Cond.code ({ cls := "HalfMastModel", name := "sill", desc := "(I)I" } : Jvm.MethodName) prog_14_method_68_code (3 : Nat) (Option.some Jvm.ClassFile.FieldType.int)) ∈ TB := tb_t7 132 rfl rfl
theorem kw_1573 : (Jvm.Cond.methodLink "HalfMastLaw" (86 : Nat) ({ cls := "HalfMastModel", name := "moves", desc := "(I)I" } : Jvm.MethodName)) ∈ TB := tb_t7 133 rfl rfl
theorem kw_1574 : (Jvm.Cond.instanceMethod ({ cls := "HalfMastModel", name := "moves", desc := "(I)I" } : Jvm.MethodName)) ∈ TB := tb_t7 134 rfl rfl
theorem kw_1575 : (Jvm.Cond.selects "HalfMastModel" ({ cls := "HalfMastModel", name := "moves", desc := "(I)I" } : Jvm.MethodName) ({ cls := "HalfMastModel", name := "moves", desc := "(I)I" } : Jvm.MethodName)) ∈ TB := tb_t7 135 rfl rfl
theorem kw_1576 : (Jvm.Cond.code ({ cls := "HalfMastModel", name := "moves", desc := "(I)I" } : Jvm.MethodName) prog_14_method_70_code (2 : Nat) (Option.some Jvm.ClassFile.FieldType.int)) ∈ TB := tb_t7 136 rfl rfl
theorem kw_1577 : (Jvm.Cond.methodLink "HalfMastModel" (324 : Nat) ({ cls := "HalfMastModel", name := "movesIn", desc := "(IZ)I" } : Jvm.MethodName)) ∈ TB := tb_t7 137 rfl rfl
theorem kw_1579 : (Jvm.Cond.instanceMethod ({ cls := "HalfMastModel", name := "movesIn", desc := "(IZ)I" } : Jvm.MethodName)) ∈ TB := tb_t7 139 rfl rfl
theorem kw_1580 : (Jvm.Cond.code ({ cls := "HalfMastModel", name := "movesIn", desc := "(IZ)I" } : Jvm.MethodName) prog_14_method_69_code (7 : Nat) (Option.some Jvm.ClassFile.FieldType.int)) ∈ TB := tb_t7 140 rfl rfl
theorem kw_1581 : (Jvm.Cond.methodLink "HalfMastLaw" (162 : Nat) ({ cls := "HalfMastModel", name := "rises", desc := "(I)I" } : Jvm.MethodName)) ∈ TB := tb_t7 141 rfl rfl
theorem kw_1582 : (Jvm.Cond.instanceMethod ({ cls := "HalfMastModel", name := "rises", desc := "(I)I" } : Jvm.MethodName)) ∈ TB := tb_t7 142 rfl rfl
theorem kw_1583 : (Jvm.Cond.selects "HalfMastModel" ({ cls := "HalfMastModel", name := "rises", desc := "(I)I" } : Jvm.MethodName) ({ cls := "HalfMastModel", name := "rises", desc := "(I)I" } : Jvm.MethodName)) ∈ TB := tb_t7 143 rfl rfl
theorem kw_1584 : (Jvm.Cond.code ({ cls := "HalfMastModel", name := "rises", desc := "(I)I" } : Jvm.MethodName) prog_14_method_71_code (2 : Nat) (Option.some Jvm.ClassFile.FieldType.int)) ∈ TB := tb_t7 144 rfl rfl
theorem kw_1585 : (Jvm.Cond.methodLink "HalfMastLaw" (166 : Nat) ({ cls := "HalfMastModel", name := "turn", desc := "()I" } : Jvm.MethodName)) ∈ TB := tb_t7 145 rfl rfl
theorem kw_1586 : (Jvm.Cond.instanceMethod ({ cls := "HalfMastModel", name := "turn", desc := "()I" } : Jvm.MethodName)) ∈ TB := tb_t7 146 rfl rfl
theorem kw_1587 : (Jvm.Cond.selects "HalfMastModel" ({ cls := "HalfMastModel", name := "turn", desc := "()I" } : Jvm.MethodName) ({ cls := "HalfMastModel", name := "turn", desc := "()I" } : Jvm.MethodName)) ∈ TB := tb_t7 147 rfl rfl
theorem kw_1588 : (Jvm.Cond.code ({ cls := "HalfMastModel", name := "turn", desc := "()I" } : Jvm.MethodName) prog_14_method_72_code (6 : Nat) (Option.some Jvm.ClassFile.FieldType.int)) ∈ TB := tb_t7 148 rfl rfl
theorem kw_1589 : (Jvm.Cond.methodLink "HalfMastLaw" (90 : Nat) ({ cls := "HalfMastModel", name := "settled", desc := "()I" } : Jvm.MethodName)) ∈ TB := tb_t7 149 rfl rfl
theorem kw_1590 : (Jvm.Cond.instanceMethod ({ cls := "HalfMastModel", name := "settled", desc := "()I" } : Jvm.MethodName)) ∈ TB := tb_t7 150 rfl rfl
theorem kw_1591 : (Jvm.Cond.selects "HalfMastModel" ({ cls := "HalfMastModel", name := "settled", desc := "()I" } : Jvm.MethodName) ({ cls := "HalfMastModel", name := "settled", desc := "()I" } : Jvm.MethodName)) ∈ TB := tb_t7 151 rfl rfl
theorem kw_1592 : (Jvm.Cond.code ({ cls := "HalfMastModel", name := "settled", desc := "()I" } : Jvm.MethodName) prog_14_method_73_code (2 : Nat) (Option.some Jvm.ClassFile.FieldType.int)) ∈ TB := tb_t7 152 rfl rfl
theorem kw_1593 : (Jvm.Cond.methodLink "HalfMastLaw" (94 : Nat) ({ cls := "HalfMastModel", name := "lowest", desc := "()I" } : Jvm.MethodName)) ∈ TB := tb_t7 153 rfl rfl
theorem kw_1594 : (Jvm.Cond.instanceMethod ({ cls := "HalfMastModel", name := "lowest", desc := "()I" } : Jvm.MethodName)) ∈ TB := tb_t7 154 rfl rfl
theorem kw_1595 : (Jvm.Cond.selects "HalfMastModel" ({ cls := "HalfMastModel", name := "lowest", desc := "()I" } : Jvm.MethodName) ({ cls := "HalfMastModel", name := "lowest", desc := "()I" } : Jvm.MethodName)) ∈ TB := tb_t7 155 rfl rfl
theorem kw_1596 : (Jvm.Cond.code ({ cls := "HalfMastModel", name := "lowest", desc := "()I" } : Jvm.MethodName) prog_14_method_74_code (5 : Nat) (Option.some Jvm.ClassFile.FieldType.int)) ∈ TB := tb_t7 156 rfl rfl
theorem kw_1597 : (Jvm.Cond.methodLink "HalfMastLaw" (170 : Nat) ({ cls := "HalfMastModel", name := "range", desc := "(I)I" } : Jvm.MethodName)) ∈ TB := tb_t7 157 rfl rfl
theorem kw_1598 : (Jvm.Cond.instanceMethod ({ cls := "HalfMastModel", name := "range", desc := "(I)I" } : Jvm.MethodName)) ∈ TB := tb_t7 158 rfl rfl
theorem kw_1599 : (Jvm.Cond.selects "HalfMastModel" ({ cls := "HalfMastModel", name := "range", desc := "(I)I" } : Jvm.MethodName) ({ cls := "HalfMastModel", name := "range", desc := "(I)I" } : Jvm.MethodName)) ∈ TB := tb_t7 159 rfl rfl
theorem kw_1600 : (Jvm.Cond.code ({ cls := "HalfMastModel", name := "range", desc := "(I)I" } : Jvm.MethodName) prog_14_method_75_code (6 : Nat) (Option.some Jvm.ClassFile.FieldType.int)) ∈ TB := tb_t7 160 rfl rfl
theorem kw_1601 : (Jvm.Cond.methodLink "HalfMastLaw" (174 : Nat) ({ cls := "HalfMastModel", name := "faith", desc := "(I)I" } : Jvm.MethodName)) ∈ TB := tb_t7 161 rfl rfl
theorem kw_1602 : (Jvm.Cond.instanceMethod ({ cls := "HalfMastModel", name := "faith", desc := "(I)I" } : Jvm.MethodName)) ∈ TB := tb_t7 162 rfl rfl
theorem kw_1603 : (Jvm.Cond.selects "HalfMastModel" ({ cls := "HalfMastModel", name := "faith", desc := "(I)I" } : Jvm.MethodName) ({ cls := "HalfMastModel", name := "faith", desc := "(I)I" } : Jvm.MethodName)) ∈ TB := tb_t7 163 rfl rfl
theorem kw_1604 : (Jvm.Cond.code ({ cls := "HalfMastModel", name := "faith", desc := "(I)I" } : Jvm.MethodName) prog_14_method_76_code (5 : Nat) (Option.some Jvm.ClassFile.FieldType.int)) ∈ TB := tb_t7 164 rfl rfl
theorem kw_1605 : (Jvm.Cond.methodLink "HalfMastLaw" (98 : Nat) ({ cls := "HalfMastModel", name := "spared", desc := "(I)I" } : Jvm.MethodName)) ∈ TB := tb_t7 165 rfl rfl
theorem kw_1606 : (Jvm.Cond.instanceMethod ({ cls := "HalfMastModel", name := "spared", desc := "(I)I" } : Jvm.MethodName)) ∈ TB := tb_t7 166 rfl rfl
theorem kw_1607 : (Jvm.Cond.selects "HalfMastModel" ({ cls := "HalfMastModel", name := "spared", desc := "(I)I" } : Jvm.MethodName) ({ cls := "HalfMastModel", name := "spared", desc := "(I)I" } : Jvm.MethodName)) ∈ TB := tb_t7 167 rfl rfl
theorem kw_1608 : (Jvm.Cond.code ({ cls := "HalfMastModel", name := "spared", desc := "(I)I" } : Jvm.MethodName) prog_14_method_79_code (4 : Nat) (Option.some Jvm.ClassFile.FieldType.int)) ∈ TB := tb_t7 168 rfl rfl
theorem kw_1609 : (Jvm.Cond.methodLink "HalfMastModel" (328 : Nat) ({ cls := "HalfMastModel", name := "bits", desc := "(I)I" } : Jvm.MethodName)) ∈ TB := tb_t7 169 rfl rfl
theorem kw_1610 : (Jvm.Cond.static ({ cls := "HalfMastModel", name := "bits", desc := "(I)I" } : Jvm.MethodName)) ∈ TB := tb_t7 170 rfl rfl
theorem kw_1611 : (Jvm.Cond.code ({ cls := "HalfMastModel", name := "bits", desc := "(I)I" } : Jvm.MethodName) prog_14_method_77_code (3 : Nat) (Option.some Jvm.ClassFile.FieldType.int)) ∈ TB := tb_t7 171 rfl rfl
theorem kw_1612 : (Jvm.Cond.methodLink "HalfMastModel" (331 : Nat) ({ cls := "HalfMastModel", name := "highWithout", desc := "(I)I" } : Jvm.MethodName)) ∈ TB := tb_t7 172 rfl rfl
theorem kw_1614 : (Jvm.Cond.instanceMethod ({ cls := "HalfMastModel", name := "highWithout", desc := "(I)I" } : Jvm.MethodName)) ∈ TB := tb_t7 174 rfl rfl
theorem kw_1615 : (Jvm.Cond.code ({ cls := "HalfMastModel", name := "highWithout", desc := "(I)I" } : Jvm.MethodName) prog_14_method_78_code (3 : Nat) (Option.some Jvm.ClassFile.FieldType.int)) ∈ TB := tb_t7 175 rfl rfl
theorem kw_1616 : (Jvm.Cond.methodLink "HalfMastLaw" (186 : Nat) ({ cls := "HalfMastModel", name := "pair", desc := "()I" } : Jvm.MethodName)) ∈ TB := tb_t7 176 rfl rfl
theorem kw_1617 : (Jvm.Cond.instanceMethod ({ cls := "HalfMastModel", name := "pair", desc := "()I" } : Jvm.MethodName)) ∈ TB := tb_t7 177 rfl rfl
theorem kw_1618 : (Jvm.Cond.selects "HalfMastModel" ({ cls := "HalfMastModel", name := "pair", desc := "()I" } : Jvm.MethodName) ({ cls := "HalfMastModel", name := "pair", desc := "()I" } : Jvm.MethodName)) ∈ TB := tb_t7 178 rfl rfl
theorem kw_1619 : (Jvm.Cond.code ({ cls := "HalfMastModel", name := "pair", desc := "()I" } : Jvm.MethodName) prog_14_method_80_code (6 : Nat) (Option.some Jvm.ClassFile.FieldType.int)) ∈ TB := tb_t7 179 rfl rfl
theorem kw_1620 : (Jvm.Cond.methodLink "HalfMastLaw" (178 : Nat) ({ cls := "HalfMastModel", name := "blame", desc := "(I)I" } : Jvm.MethodName)) ∈ TB := tb_t7 180 rfl rfl
theorem kw_1621 : (Jvm.Cond.instanceMethod ({ cls := "HalfMastModel", name := "blame", desc := "(I)I" } : Jvm.MethodName)) ∈ TB := tb_t7 181 rfl rfl
theorem kw_1622 : (Jvm.Cond.selects "HalfMastModel" ({ cls := "HalfMastModel", name := "blame", desc := "(I)I" } : Jvm.MethodName) ({ cls := "HalfMastModel", name := "blame", desc := "(I)I" } : Jvm.MethodName)) ∈ TB := tb_t7 182 rfl rfl
theorem kw_1623 : (Jvm.Cond.code ({ cls := "HalfMastModel", name := "blame", desc := "(I)I" } : Jvm.MethodName) prog_14_method_81_code (6 : Nat) (Option.some Jvm.ClassFile.FieldType.int)) ∈ TB := tb_t7 183 rfl rfl
theorem kw_1624 : (Jvm.Cond.methodLink "HalfMastLaw" (102 : Nat) ({ cls := "HalfMastModel", name := "least", desc := "(II)I" } : Jvm.MethodName)) ∈ TB := tb_t7 184 rfl rfl
theorem kw_1625 : (Jvm.Cond.instanceMethod ({ cls := "HalfMastModel", name := "least", desc := "(II)I" } : Jvm.MethodName)) ∈ TB := tb_t7 185 rfl rfl
theorem kw_1626 : (Jvm.Cond.selects "HalfMastModel" ({ cls := "HalfMastModel", name := "least", desc := "(II)I" } : Jvm.MethodName) ({ cls := "HalfMastModel", name := "least", desc := "(II)I" } : Jvm.MethodName)) ∈ TB := tb_t7 186 rfl rfl
theorem kw_1627 : (Jvm.Cond.code ({ cls := "HalfMastModel", name := "least", desc := "(II)I" } : Jvm.MethodName) prog_14_method_83_code (7 : Nat) (Option.some Jvm.ClassFile.FieldType.int)) ∈ TB := tb_t7 187 rfl rfl
theorem kw_1628 : (Jvm.Cond.methodLink "HalfMastModel" (334 : Nat) ({ cls := "HalfMastModel", name := "highIf", desc := "(II)I" } : Jvm.MethodName)) ∈ TB := tb_t7 188 rfl rfl
theorem kw_1630 : (Jvm.Cond.instanceMethod ({ cls := "HalfMastModel", name := "highIf", desc := "(II)I" } : Jvm.MethodName)) ∈ TB := tb_t7 190 rfl rfl
theorem kw_1631 : (Jvm.Cond.code ({ cls := "HalfMastModel", name := "highIf", desc := "(II)I" } : Jvm.MethodName) prog_14_method_82_code (3 : Nat) (Option.some Jvm.ClassFile.FieldType.int)) ∈ TB := tb_t7 191 rfl rfl
theorem kw_1632 : (Jvm.Cond.methodLink "HalfMastLaw" (106 : Nat) ({ cls := "HalfMastModel", name := "cost", desc := "(I)I" } : Jvm.MethodName)) ∈ TB := tb_t7 192 rfl rfl
theorem kw_1633 : (Jvm.Cond.instanceMethod ({ cls := "HalfMastModel", name := "cost", desc := "(I)I" } : Jvm.MethodName)) ∈ TB := tb_t7 193 rfl rfl
theorem kw_1634 : (Jvm.Cond.selects "HalfMastModel" ({ cls := "HalfMastModel", name := "cost", desc := "(I)I" } : Jvm.MethodName) ({ cls := "HalfMastModel", name := "cost", desc := "(I)I" } : Jvm.MethodName)) ∈ TB := tb_t7 194 rfl rfl
theorem kw_1635 : (Jvm.Cond.code ({ cls := "HalfMastModel", name := "cost", desc := "(I)I" } : Jvm.MethodName) prog_14_method_84_code (3 : Nat) (Option.some Jvm.ClassFile.FieldType.int)) ∈ TB := tb_t7 195 rfl rfl
theorem kw_1636 : (Jvm.Cond.methodLink "HalfMastLaw" (190 : Nat) ({ cls := "HalfMastModel", name := "even", desc := "()I" } : Jvm.MethodName)) ∈ TB := tb_t7 196 rfl rfl
theorem kw_1637 : (Jvm.Cond.instanceMethod ({ cls := "HalfMastModel", name := "even", desc := "()I" } : Jvm.MethodName)) ∈ TB := tb_t7 197 rfl rfl
theorem kw_1638 : (Jvm.Cond.selects "HalfMastModel" ({ cls := "HalfMastModel", name := "even", desc := "()I" } : Jvm.MethodName) ({ cls := "HalfMastModel", name := "even", desc := "()I" } : Jvm.MethodName)) ∈ TB := tb_t7 198 rfl rfl
theorem kw_1639 : (Jvm.Cond.code ({ cls := "HalfMastModel", name := "even", desc := "()I" } : Jvm.MethodName) prog_14_method_85_code (3 : Nat) (Option.some Jvm.ClassFile.FieldType.int)) ∈ TB := tb_t7 199 rfl rfl
theorem kw_1640 : (Jvm.Cond.methodLink "HalfMastLaw" (110 : Nat) ({ cls := "HalfMastModel", name := "heavy", desc := "()I" } : Jvm.MethodName)) ∈ TB := tb_t7 200 rfl rfl
theorem kw_1641 : (Jvm.Cond.instanceMethod ({ cls := "HalfMastModel", name := "heavy", desc := "()I" } : Jvm.MethodName)) ∈ TB := tb_t7 201 rfl rfl
theorem kw_1642 : (Jvm.Cond.selects "HalfMastModel" ({ cls := "HalfMastModel", name := "heavy", desc := "()I" } : Jvm.MethodName) ({ cls := "HalfMastModel", name := "heavy", desc := "()I" } : Jvm.MethodName)) ∈ TB := tb_t7 202 rfl rfl
theorem kw_1643 : (Jvm.Cond.code ({ cls := "HalfMastModel", name := "heavy", desc := "()I" } : Jvm.MethodName) prog_14_method_86_code (4 : Nat) (Option.some Jvm.ClassFile.FieldType.int)) ∈ TB := tb_t7 203 rfl rfl
theorem kw_1644 : (Jvm.Cond.methodLink "HalfMastLaw" (114 : Nat) ({ cls := "HalfMastModel", name := "see", desc := "(II)Z" } : Jvm.MethodName)) ∈ TB := tb_t7 204 rfl rfl
theorem kw_1645 : (Jvm.Cond.instanceMethod ({ cls := "HalfMastModel", name := "see", desc := "(II)Z" } : Jvm.MethodName)) ∈ TB := tb_t7 205 rfl rfl
theorem kw_1646 : (Jvm.Cond.selects "HalfMastModel" ({ cls := "HalfMastModel", name := "see", desc := "(II)Z" } : Jvm.MethodName) ({ cls := "HalfMastModel", name := "see", desc := "(II)Z" } : Jvm.MethodName)) ∈ TB := tb_t7 206 rfl rfl
theorem kw_1647 : (Jvm.Cond.code ({ cls := "HalfMastModel", name := "see", desc := "(II)Z" } : Jvm.MethodName) prog_14_method_87_code (4 : Nat) (Option.some Jvm.ClassFile.FieldType.boolean)) ∈ TB := tb_t7 207 rfl rfl
theorem kw_1648 : (Jvm.Cond.methodLink "HalfMastLaw" (118 : Nat) ({ cls := "HalfMastModel", name := "ways", desc := "(I)I" } : Jvm.MethodName)) ∈ TB := tb_t7 208 rfl rfl
theorem kw_1649 : (Jvm.Cond.instanceMethod ({ cls := "HalfMastModel", name := "ways", desc := "(I)I" } : Jvm.MethodName)) ∈ TB := tb_t7 209 rfl rfl
theorem kw_1650 : (Jvm.Cond.selects "HalfMastModel" ({ cls := "HalfMastModel", name := "ways", desc := "(I)I" } : Jvm.MethodName) ({ cls := "HalfMastModel", name := "ways", desc := "(I)I" } : Jvm.MethodName)) ∈ TB := tb_t7 210 rfl rfl
theorem kw_1651 : (Jvm.Cond.code ({ cls := "HalfMastModel", name := "ways", desc := "(I)I" } : Jvm.MethodName) prog_14_method_89_code (8 : Nat) (Option.some Jvm.ClassFile.FieldType.int)) ∈ TB := tb_t7 211 rfl rfl
theorem kw_1652 : (Jvm.Cond.methodLink "HalfMastModel" (337 : Nat) ({ cls := "HalfMastModel", name := "isSeen", desc := "(II)Z" } : Jvm.MethodName)) ∈ TB := tb_t7 212 rfl rfl
theorem kw_1654 : (Jvm.Cond.instanceMethod ({ cls := "HalfMastModel", name := "isSeen", desc := "(II)Z" } : Jvm.MethodName)) ∈ TB := tb_t7 214 rfl rfl
theorem kw_1655 : (Jvm.Cond.code ({ cls := "HalfMastModel", name := "isSeen", desc := "(II)Z" } : Jvm.MethodName) prog_14_method_88_code (6 : Nat) (Option.some Jvm.ClassFile.FieldType.boolean)) ∈ TB := tb_t7 215 rfl rfl
theorem kw_1656 : (Jvm.Cond.methodLink "HalfMastLaw" (122 : Nat) ({ cls := "HalfMastModel", name := "look", desc := "()I" } : Jvm.MethodName)) ∈ TB := tb_t7 216 rfl rfl
theorem kw_1657 : (Jvm.Cond.instanceMethod ({ cls := "HalfMastModel", name := "look", desc := "()I" } : Jvm.MethodName)) ∈ TB := tb_t7 217 rfl rfl
theorem kw_1658 : (Jvm.Cond.selects "HalfMastModel" ({ cls := "HalfMastModel", name := "look", desc := "()I" } : Jvm.MethodName) ({ cls := "HalfMastModel", name := "look", desc := "()I" } : Jvm.MethodName)) ∈ TB := tb_t7 218 rfl rfl
theorem kw_1659 : (Jvm.Cond.code ({ cls := "HalfMastModel", name := "look", desc := "()I" } : Jvm.MethodName) prog_14_method_90_code (7 : Nat) (Option.some Jvm.ClassFile.FieldType.int)) ∈ TB := tb_t7 219 rfl rfl
theorem kw_1660 : (Jvm.Cond.methodLink "HalfMastLaw" (126 : Nat) ({ cls := "HalfMastModel", name := "measure", desc := "(II)Z" } : Jvm.MethodName)) ∈ TB := tb_t7 220 rfl rfl
theorem kw_1661 : (Jvm.Cond.instanceMethod ({ cls := "HalfMastModel", name := "measure", desc := "(II)Z" } : Jvm.MethodName)) ∈ TB := tb_t7 221 rfl rfl
theorem kw_1662 : (Jvm.Cond.selects "HalfMastModel" ({ cls := "HalfMastModel", name := "measure", desc := "(II)Z" } : Jvm.MethodName) ({ cls := "HalfMastModel", name := "measure", desc := "(II)Z" } : Jvm.MethodName)) ∈ TB := tb_t7 222 rfl rfl
theorem kw_1663 : (Jvm.Cond.code ({ cls := "HalfMastModel", name := "measure", desc := "(II)Z" } : Jvm.MethodName) prog_14_method_91_code (4 : Nat) (Option.some Jvm.ClassFile.FieldType.boolean)) ∈ TB := tb_t7 223 rfl rfl
theorem kw_1664 : (Jvm.Cond.methodLink "HalfMastLaw" (130 : Nat) ({ cls := "HalfMastModel", name := "rules", desc := "(I)I" } : Jvm.MethodName)) ∈ TB := tb_t7 224 rfl rfl
theorem kw_1665 : (Jvm.Cond.instanceMethod ({ cls := "HalfMastModel", name := "rules", desc := "(I)I" } : Jvm.MethodName)) ∈ TB := tb_t7 225 rfl rfl
theorem kw_1666 : (Jvm.Cond.selects "HalfMastModel" ({ cls := "HalfMastModel", name := "rules", desc := "(I)I" } : Jvm.MethodName) ({ cls := "HalfMastModel", name := "rules", desc := "(I)I" } : Jvm.MethodName)) ∈ TB := tb_t7 226 rfl rfl
theorem kw_1667 : (Jvm.Cond.code ({ cls := "HalfMastModel", name := "rules", desc := "(I)I" } : Jvm.MethodName) prog_14_method_93_code (6 : Nat) (Option.some Jvm.ClassFile.FieldType.int)) ∈ TB := tb_t7 227 rfl rfl
theorem kw_1668 : (Jvm.Cond.methodLink "HalfMastModel" (341 : Nat) ({ cls := "HalfMastModel", name := "isMeasured", desc := "(II)Z" } : Jvm.MethodName)) ∈ TB := tb_t7 228 rfl rfl
theorem kw_1670 : (Jvm.Cond.instanceMethod ({ cls := "HalfMastModel", name := "isMeasured", desc := "(II)Z" } : Jvm.MethodName)) ∈ TB := tb_t7 230 rfl rfl
theorem kw_1671 : (Jvm.Cond.code ({ cls := "HalfMastModel", name := "isMeasured", desc := "(II)Z" } : Jvm.MethodName) prog_14_method_92_code (6 : Nat) (Option.some Jvm.ClassFile.FieldType.boolean)) ∈ TB := tb_t7 231 rfl rfl
theorem kw_1672 : (Jvm.Cond.methodLink "HalfMastLaw" (134 : Nat) ({ cls := "HalfMastModel", name := "reach", desc := "(I)I" } : Jvm.MethodName)) ∈ TB := tb_t7 232 rfl rfl
theorem kw_1673 : (Jvm.Cond.instanceMethod ({ cls := "HalfMastModel", name := "reach", desc := "(I)I" } : Jvm.MethodName)) ∈ TB := tb_t7 233 rfl rfl
theorem kw_1674 : (Jvm.Cond.selects "HalfMastModel" ({ cls := "HalfMastModel", name := "reach", desc := "(I)I" } : Jvm.MethodName) ({ cls := "HalfMastModel", name := "reach", desc := "(I)I" } : Jvm.MethodName)) ∈ TB := tb_t7 234 rfl rfl
theorem kw_1675 : (Jvm.Cond.code ({ cls := "HalfMastModel", name := "reach", desc := "(I)I" } : Jvm.MethodName) prog_14_method_95_code (2 : Nat) (Option.some Jvm.ClassFile.FieldType.int)) ∈ TB := tb_t7 235 rfl rfl
theorem kw_1676 : (Jvm.Cond.methodLink "HalfMastModel" (344 : Nat) ({ cls := "HalfMastModel", name := "feltIn", desc := "(II)I" } : Jvm.MethodName)) ∈ TB := tb_t7 236 rfl rfl
theorem kw_1678 : (Jvm.Cond.instanceMethod ({ cls := "HalfMastModel", name := "feltIn", desc := "(II)I" } : Jvm.MethodName)) ∈ TB := tb_t7 238 rfl rfl
theorem kw_1679 : (Jvm.Cond.code ({ cls := "HalfMastModel", name := "feltIn", desc := "(II)I" } : Jvm.MethodName) prog_14_method_94_code (6 : Nat) (Option.some Jvm.ClassFile.FieldType.int)) ∈ TB := tb_t7 239 rfl rfl
theorem kw_1680 : (Jvm.Cond.methodLink "HalfMastLaw" (138 : Nat) ({ cls := "HalfMastModel", name := "through", desc := "(II)I" } : Jvm.MethodName)) ∈ TB := tb_t8 0 rfl rfl
theorem kw_1681 : (Jvm.Cond.instanceMethod ({ cls := "HalfMastModel", name := "through", desc := "(II)I" } : Jvm.MethodName)) ∈ TB := tb_t8 1 rfl rfl
theorem kw_1682 : (Jvm.Cond.selects "HalfMastModel" ({ cls := "HalfMastModel", name := "through", desc := "(II)I" } : Jvm.MethodName) ({ cls := "HalfMastModel", name := "through", desc := "(II)I" } : Jvm.MethodName)) ∈ TB := tb_t8 2 rfl rfl
theorem kw_1683 : (Jvm.Cond.code ({ cls := "HalfMastModel", name := "through", desc := "(II)I" } : Jvm.MethodName) prog_14_method_96_code (7 : Nat) (Option.some Jvm.ClassFile.FieldType.int)) ∈ TB := tb_t8 3 rfl rfl
theorem kw_1684 : (Jvm.Cond.methodLink "HalfMastLaw" (142 : Nat) ({ cls := "HalfMastModel", name := "groups", desc := "()I" } : Jvm.MethodName)) ∈ TB := tb_t8 4 rfl rfl
theorem kw_1685 : (Jvm.Cond.instanceMethod ({ cls := "HalfMastModel", name := "groups", desc := "()I" } : Jvm.MethodName)) ∈ TB := tb_t8 5 rfl rfl
theorem kw_1686 : (Jvm.Cond.selects "HalfMastModel" ({ cls := "HalfMastModel", name := "groups", desc := "()I" } : Jvm.MethodName) ({ cls := "HalfMastModel", name := "groups", desc := "()I" } : Jvm.MethodName)) ∈ TB := tb_t8 6 rfl rfl
theorem kw_1687 : (Jvm.Cond.code ({ cls := "HalfMastModel", name := "groups", desc := "()I" } : Jvm.MethodName) prog_14_method_97_code (5 : Nat) (Option.some Jvm.ClassFile.FieldType.int)) ∈ TB := tb_t8 7 rfl rfl
theorem kw_1688 : (Jvm.Cond.methodLink "HalfMastLaw" (146 : Nat) ({ cls := "HalfMastModel", name := "deaf", desc := "()I" } : Jvm.MethodName)) ∈ TB := tb_t8 8 rfl rfl
theorem kw_1689 : (Jvm.Cond.instanceMethod ({ cls := "HalfMastModel", name := "deaf", desc := "()I" } : Jvm.MethodName)) ∈ TB := tb_t8 9 rfl rfl
theorem kw_1690 : (Jvm.Cond.selects "HalfMastModel" ({ cls := "HalfMastModel", name := "deaf", desc := "()I" } : Jvm.MethodName) ({ cls := "HalfMastModel", name := "deaf", desc := "()I" } : Jvm.MethodName)) ∈ TB := tb_t8 10 rfl rfl
theorem kw_1691 : (Jvm.Cond.code ({ cls := "HalfMastModel", name := "deaf", desc := "()I" } : Jvm.MethodName) prog_14_method_98_code (3 : Nat) (Option.some Jvm.ClassFile.FieldType.int)) ∈ TB := tb_t8 11 rfl rfl
theorem kw_1692 : (Jvm.Cond.methodLink "HalfMastLaw" (182 : Nat) ({ cls := "HalfMastModel", name := "hearts", desc := "(I)I" } : Jvm.MethodName)) ∈ TB := tb_t8 12 rfl rfl
theorem kw_1693 : (Jvm.Cond.instanceMethod ({ cls := "HalfMastModel", name := "hearts", desc := "(I)I" } : Jvm.MethodName)) ∈ TB := tb_t8 13 rfl rfl
theorem kw_1694 : (Jvm.Cond.selects "HalfMastModel" ({ cls := "HalfMastModel", name := "hearts", desc := "(I)I" } : Jvm.MethodName) ({ cls := "HalfMastModel", name := "hearts", desc := "(I)I" } : Jvm.MethodName)) ∈ TB := tb_t8 14 rfl rfl
theorem kw_1695 : (Jvm.Cond.code ({ cls := "HalfMastModel", name := "hearts", desc := "(I)I" } : Jvm.MethodName) prog_14_method_99_code (4 : Nat) (Option.some Jvm.ClassFile.FieldType.int)) ∈ TB := tb_t8 15 rfl rfl
theorem kw_1696 : (Jvm.Cond.methodLink "HalfMastLaw" (150 : Nat) ({ cls := "HalfMastModel", name := "alike", desc := "()I" } : Jvm.MethodName)) ∈ TB := tb_t8 16 rfl rfl
theorem kw_1697 : (Jvm.Cond.instanceMethod ({ cls := "HalfMastModel", name := "alike", desc := "()I" } : Jvm.MethodName)) ∈ TB := tb_t8 17 rfl rfl
theorem kw_1698 : (Jvm.Cond.selects "HalfMastModel" ({ cls := "HalfMastModel", name := "alike", desc := "()I" } : Jvm.MethodName) ({ cls := "HalfMastModel", name := "alike", desc := "()I" } : Jvm.MethodName)) ∈ TB := tb_t8 18 rfl rfl
theorem kw_1699 : (Jvm.Cond.code ({ cls := "HalfMastModel", name := "alike", desc := "()I" } : Jvm.MethodName) prog_14_method_100_code (4 : Nat) (Option.some Jvm.ClassFile.FieldType.int)) ∈ TB := tb_t8 19 rfl rfl
theorem kw_1700 : (Jvm.Cond.methodLink "HalfMastLaw" (154 : Nat) ({ cls := "HalfMastModel", name := "worse", desc := "()I" } : Jvm.MethodName)) ∈ TB := tb_t8 20 rfl rfl
theorem kw_1701 : (Jvm.Cond.instanceMethod ({ cls := "HalfMastModel", name := "worse", desc := "()I" } : Jvm.MethodName)) ∈ TB := tb_t8 21 rfl rfl
theorem kw_1702 : (Jvm.Cond.selects "HalfMastModel" ({ cls := "HalfMastModel", name := "worse", desc := "()I" } : Jvm.MethodName) ({ cls := "HalfMastModel", name := "worse", desc := "()I" } : Jvm.MethodName)) ∈ TB := tb_t8 22 rfl rfl
theorem kw_1703 : (Jvm.Cond.code ({ cls := "HalfMastModel", name := "worse", desc := "()I" } : Jvm.MethodName) prog_14_method_101_code (5 : Nat) (Option.some Jvm.ClassFile.FieldType.int)) ∈ TB := tb_t8 23 rfl rfl
theorem kw_1704 : (Jvm.Cond.methodLink "HalfMastLaw" (158 : Nat) ({ cls := "HalfMastModel", name := "mean", desc := "()I" } : Jvm.MethodName)) ∈ TB := tb_t8 24 rfl rfl
theorem kw_1705 : (Jvm.Cond.instanceMethod ({ cls := "HalfMastModel", name := "mean", desc := "()I" } : Jvm.MethodName)) ∈ TB := tb_t8 25 rfl rfl
theorem kw_1706 : (Jvm.Cond.selects "HalfMastModel" ({ cls := "HalfMastModel", name := "mean", desc := "()I" } : Jvm.MethodName) ({ cls := "HalfMastModel", name := "mean", desc := "()I" } : Jvm.MethodName)) ∈ TB := tb_t8 26 rfl rfl
theorem kw_1707 : (Jvm.Cond.code ({ cls := "HalfMastModel", name := "mean", desc := "()I" } : Jvm.MethodName) prog_14_method_102_code (1 : Nat) (Option.some Jvm.ClassFile.FieldType.int)) ∈ TB := tb_t8 27 rfl rfl
theorem kw_1708 : (Jvm.Cond.methodLink "HalfMastModel" (347 : Nat) ({ cls := "HalfMastModel", name := "lacksAll", desc := "(I)I" } : Jvm.MethodName)) ∈ TB := tb_t8 28 rfl rfl
theorem kw_1710 : (Jvm.Cond.instanceMethod ({ cls := "HalfMastModel", name := "lacksAll", desc := "(I)I" } : Jvm.MethodName)) ∈ TB := tb_t8 30 rfl rfl
theorem kw_1711 : (Jvm.Cond.code ({ cls := "HalfMastModel", name := "lacksAll", desc := "(I)I" } : Jvm.MethodName) prog_14_method_55_code (4 : Nat) (Option.some Jvm.ClassFile.FieldType.int)) ∈ TB := tb_t8 31 rfl rfl
theorem kw_1712 : (Jvm.Cond.methodLink "HalfMastLaw" (194 : Nat) ({ cls := "HalfMastModel", name := "chance", desc := "(IIII)I" } : Jvm.MethodName)) ∈ TB := tb_t8 32 rfl rfl
theorem kw_1713 : (Jvm.Cond.instanceMethod ({ cls := "HalfMastModel", name := "chance", desc := "(IIII)I" } : Jvm.MethodName)) ∈ TB := tb_t8 33 rfl rfl
theorem kw_1714 : (Jvm.Cond.selects "HalfMastModel" ({ cls := "HalfMastModel", name := "chance", desc := "(IIII)I" } : Jvm.MethodName) ({ cls := "HalfMastModel", name := "chance", desc := "(IIII)I" } : Jvm.MethodName)) ∈ TB := tb_t8 34 rfl rfl
theorem kw_1715 : (Jvm.Cond.code ({ cls := "HalfMastModel", name := "chance", desc := "(IIII)I" } : Jvm.MethodName) prog_14_method_103_code (14 : Nat) (Option.some Jvm.ClassFile.FieldType.int)) ∈ TB := tb_t8 35 rfl rfl
theorem kw_1716 : (Jvm.Cond.constantLong "HalfMastModel" (350 : Nat) (1000000 : Int64)) ∈ TB := tb_t8 36 rfl rfl
theorem kw_1717 : (Jvm.Cond.methodLink "HalfMastLaw" (200 : Nat) ({ cls := "HalfMastModel", name := "rests", desc := "(IIII)I" } : Jvm.MethodName)) ∈ TB := tb_t8 37 rfl rfl
theorem kw_1718 : (Jvm.Cond.instanceMethod ({ cls := "HalfMastModel", name := "rests", desc := "(IIII)I" } : Jvm.MethodName)) ∈ TB := tb_t8 38 rfl rfl
theorem kw_1719 : (Jvm.Cond.selects "HalfMastModel" ({ cls := "HalfMastModel", name := "rests", desc := "(IIII)I" } : Jvm.MethodName) ({ cls := "HalfMastModel", name := "rests", desc := "(IIII)I" } : Jvm.MethodName)) ∈ TB := tb_t8 39 rfl rfl
theorem kw_1720 : (Jvm.Cond.code ({ cls := "HalfMastModel", name := "rests", desc := "(IIII)I" } : Jvm.MethodName) prog_14_method_105_code (12 : Nat) (Option.some Jvm.ClassFile.FieldType.int)) ∈ TB := tb_t8 40 rfl rfl
theorem kw_1721 : (Jvm.Cond.methodLink "HalfMastModel" (352 : Nat) ({ cls := "HalfMastModel", name := "getsBy", desc := "(IIIII)I" } : Jvm.MethodName)) ∈ TB := tb_t8 41 rfl rfl
theorem kw_1722 : (Jvm.Cond.static ({ cls := "HalfMastModel", name := "getsBy", desc := "(IIIII)I" } : Jvm.MethodName)) ∈ TB := tb_t8 42 rfl rfl
theorem kw_1723 : (Jvm.Cond.code ({ cls := "HalfMastModel", name := "getsBy", desc := "(IIIII)I" } : Jvm.MethodName) prog_14_method_104_code (5 : Nat) (Option.some Jvm.ClassFile.FieldType.int)) ∈ TB := tb_t8 43 rfl rfl
theorem kw_1724 : (Jvm.Cond.methodLink "HalfMastLaw" (208 : Nat) ({ cls := "HalfMastModel", name := "years", desc := "(III)I" } : Jvm.MethodName)) ∈ TB := tb_t8 44 rfl rfl
theorem kw_1725 : (Jvm.Cond.instanceMethod ({ cls := "HalfMastModel", name := "years", desc := "(III)I" } : Jvm.MethodName)) ∈ TB := tb_t8 45 rfl rfl
theorem kw_1726 : (Jvm.Cond.selects "HalfMastModel" ({ cls := "HalfMastModel", name := "years", desc := "(III)I" } : Jvm.MethodName) ({ cls := "HalfMastModel", name := "years", desc := "(III)I" } : Jvm.MethodName)) ∈ TB := tb_t8 46 rfl rfl
theorem kw_1727 : (Jvm.Cond.code ({ cls := "HalfMastModel", name := "years", desc := "(III)I" } : Jvm.MethodName) prog_14_method_108_code (8 : Nat) (Option.some Jvm.ClassFile.FieldType.int)) ∈ TB := tb_t8 47 rfl rfl
theorem kw_1728 : (Jvm.Cond.methodLink "HalfMastModel" (371 : Nat) ({ cls := "HalfMastModel", name := "drawsDeed", desc := "()V" } : Jvm.MethodName)) ∈ TB := tb_t8 48 rfl rfl
theorem kw_1730 : (Jvm.Cond.instanceMethod ({ cls := "HalfMastModel", name := "drawsDeed", desc := "()V" } : Jvm.MethodName)) ∈ TB := tb_t8 50 rfl rfl
theorem kw_1731 : (Jvm.Cond.code ({ cls := "HalfMastModel", name := "drawsDeed", desc := "()V" } : Jvm.MethodName) prog_14_method_107_code (4 : Nat) (Option.none : Option Jvm.ClassFile.FieldType)) ∈ TB := tb_t8 51 rfl rfl
theorem kw_1732 : (Jvm.Cond.methodLink "HalfMastModel" (368 : Nat) ({ cls := "HalfMastModel", name := "draw", desc := "(I)I" } : Jvm.MethodName)) ∈ TB := tb_t8 52 rfl rfl
theorem kw_1734 : (Jvm.Cond.instanceMethod ({ cls := "HalfMastModel", name := "draw", desc := "(I)I" } : Jvm.MethodName)) ∈ TB := tb_t8 54 rfl rfl
theorem kw_1735 : (Jvm.Cond.code ({ cls := "HalfMastModel", name := "draw", desc := "(I)I" } : Jvm.MethodName) prog_14_method_106_code (2 : Nat) (Option.some Jvm.ClassFile.FieldType.int)) ∈ TB := tb_t8 55 rfl rfl
theorem kw_1736 : (Jvm.Cond.constantLong "HalfMastModel" (360 : Nat) (1103515245 : Int64)) ∈ TB := tb_t8 56 rfl rfl
theorem kw_1737 : (Jvm.Cond.constantLong "HalfMastModel" (362 : Nat) (12345 : Int64)) ∈ TB := tb_t8 57 rfl rfl
theorem kw_1738 : (Jvm.Cond.constantLong "HalfMastModel" (364 : Nat) (2147483648 : Int64)) ∈ TB := tb_t8 58 rfl rfl
theorem kw_1739 : (Jvm.Cond.constantLong "HalfMastModel" (366 : Nat) (65536 : Int64)) ∈ TB := tb_t8 59 rfl rfl
theorem kw_1740 : (Jvm.Cond.methodLink "HalfMastLaw" (213 : Nat) ({ cls := "HalfMastModel", name := "mark", desc := "(IZ)Z" } : Jvm.MethodName)) ∈ TB := tb_t8 60 rfl rfl
theorem kw_1741 : (Jvm.Cond.instanceMethod ({ cls := "HalfMastModel", name := "mark", desc := "(IZ)Z" } : Jvm.MethodName)) ∈ TB := tb_t8 61 rfl rfl
theorem kw_1742 : (Jvm.Cond.selects "HalfMastModel" ({ cls := "HalfMastModel", name := "mark", desc := "(IZ)Z" } : Jvm.MethodName) ({ cls := "HalfMastModel", name := "mark", desc := "(IZ)Z" } : Jvm.MethodName)) ∈ TB := tb_t8 62 rfl rfl
theorem kw_1743 : (Jvm.Cond.code ({ cls := "HalfMastModel", name := "mark", desc := "(IZ)Z" } : Jvm.MethodName) prog_14_method_109_code (3 : Nat) (Option.some Jvm.ClassFile.FieldType.boolean)) ∈ TB := tb_t8 63 rfl rfl
theorem kw_1744 : (Jvm.Cond.methodLink "HalfMastLaw" (217 : Nat) ({ cls := "HalfMastModel", name := "count", desc := "(I)I" } : Jvm.MethodName)) ∈ TB := tb_t8 64 rfl rfl
theorem kw_1745 : (Jvm.Cond.instanceMethod ({ cls := "HalfMastModel", name := "count", desc := "(I)I" } : Jvm.MethodName)) ∈ TB := tb_t8 65 rfl rfl
theorem kw_1746 : (Jvm.Cond.selects "HalfMastModel" ({ cls := "HalfMastModel", name := "count", desc := "(I)I" } : Jvm.MethodName) ({ cls := "HalfMastModel", name := "count", desc := "(I)I" } : Jvm.MethodName)) ∈ TB := tb_t8 66 rfl rfl
theorem kw_1747 : (Jvm.Cond.code ({ cls := "HalfMastModel", name := "count", desc := "(I)I" } : Jvm.MethodName) prog_14_method_111_code (2 : Nat) (Option.some Jvm.ClassFile.FieldType.int)) ∈ TB := tb_t8 67 rfl rfl
theorem kw_1748 : (Jvm.Cond.methodLink "HalfMastModel" (374 : Nat) ({ cls := "HalfMastModel", name := "lacking", desc := "()I" } : Jvm.MethodName)) ∈ TB := tb_t8 68 rfl rfl
theorem kw_1750 : (Jvm.Cond.instanceMethod ({ cls := "HalfMastModel", name := "lacking", desc := "()I" } : Jvm.MethodName)) ∈ TB := tb_t8 70 rfl rfl
theorem kw_1751 : (Jvm.Cond.code ({ cls := "HalfMastModel", name := "lacking", desc := "()I" } : Jvm.MethodName) prog_14_method_110_code (3 : Nat) (Option.some Jvm.ClassFile.FieldType.int)) ∈ TB := tb_t8 71 rfl rfl
theorem kw_1752 : (Jvm.Cond.constantLong "HalfMastLaw" (19 : Nat) (4294967295 : Int64)) ∈ TB := tb_t8 72 rfl rfl
theorem kw_1753 : (Jvm.Cond.sameMethod "java/lang/Throwable" "java/lang/Throwable" "fillInStackTrace" "(I)Ljava/lang/Throwable;") ∈ TB := tb_t8 73 rfl rfl
theorem kw_1769 : (Jvm.Cond.fieldLink "HalfMast$Word" (116 : Nat) "HalfMast$Word" "letters" "J") ∈ TB := tb_t8 89 rfl rfl
theorem kw_1770 : (Jvm.Cond.fieldLink "java/lang/String" (15 : Nat) "java/lang/String" "coder" "B") ∈ TB := tb_t8 90 rfl rfl
theorem kw_1771 : (Jvm.Cond.fieldLink "java/lang/String" (9 : Nat) "java/lang/String" "value" "[B") ∈ TB := tb_t8 91 rfl rfl
theorem kw_1772 : (Jvm.Cond.fieldLink "java/lang/Enum" (7 : Nat) "java/lang/Enum" "ordinal" "I") ∈ TB := tb_t8 92 rfl rfl
theorem ks_0 : Cond.selects "HalfMast$Town" (⟨"HalfMast$Town", "clear", "()V"⟩ : MethodName) (⟨"HalfMast$Town", "clear", "()V"⟩ : MethodName) ∈ TB := tb_s 0 rfl rfl
theorem ks_1 : Cond.selects "HalfMast$State" (⟨"HalfMast$State", "clear", "()V"⟩ : MethodName) (⟨"HalfMast$State", "clear", "()V"⟩ : MethodName) ∈ TB := tb_s 1 rfl rfl
theorem ks_2 : Cond.selects "HalfMast$Law" (⟨"HalfMast$Law", "useOldLaw", "()V"⟩ : MethodName) (⟨"HalfMast$Law", "useOldLaw", "()V"⟩ : MethodName) ∈ TB := tb_s 2 rfl rfl
theorem ks_3 : Cond.selects "HalfMast$Law" (⟨"HalfMast$Law", "forget", "()V"⟩ : MethodName) (⟨"HalfMast$Law", "forget", "()V"⟩ : MethodName) ∈ TB := tb_s 3 rfl rfl
theorem ks_4 : Cond.selects "HalfMast$Law" (⟨"HalfMast$Law", "add", "(I)V"⟩ : MethodName) (⟨"HalfMast$Law", "add", "(I)V"⟩ : MethodName) ∈ TB := tb_s 4 rfl rfl
theorem ks_5 : Cond.selects "HalfMast$Course" (⟨"HalfMast$Course", "start", "(LHalfMast$Town;LHalfMast$State;)V"⟩ : MethodName) (⟨"HalfMast$Course", "start", "(LHalfMast$Town;LHalfMast$State;)V"⟩ : MethodName) ∈ TB := tb_s 5 rfl rfl
theorem ks_6 : Cond.selects "HalfMast$Course" (⟨"HalfMast$Course", "startBy", "(LHalfMast$Town;LHalfMast$State;II)V"⟩ : MethodName) (⟨"HalfMast$Course", "startBy", "(LHalfMast$Town;LHalfMast$State;II)V"⟩ : MethodName) ∈ TB := tb_s 6 rfl rfl
theorem ks_7 : Cond.selects "HalfMast$State" (⟨"HalfMast$State", "copy", "(LHalfMast$State;)V"⟩ : MethodName) (⟨"HalfMast$State", "copy", "(LHalfMast$State;)V"⟩ : MethodName) ∈ TB := tb_s 7 rfl rfl
theorem ks_8 : Cond.selects "HalfMast$Course" (⟨"HalfMast$Course", "setFlag", "()V"⟩ : MethodName) (⟨"HalfMast$Course", "setFlag", "()V"⟩ : MethodName) ∈ TB := tb_s 8 rfl rfl
theorem ks_9 : Cond.selects "HalfMast$Town" (⟨"HalfMast$Town", "weightOfAll", "(LHalfMast$State;)I"⟩ : MethodName) (⟨"HalfMast$Town", "weightOfAll", "(LHalfMast$State;)I"⟩ : MethodName) ∈ TB := tb_s 9 rfl rfl
theorem ks_10 : Cond.selects "HalfMast$Town" (⟨"HalfMast$Town", "weight", "(II)I"⟩ : MethodName) (⟨"HalfMast$Town", "weight", "(II)I"⟩ : MethodName) ∈ TB := tb_s 10 rfl rfl
theorem ks_11 : Cond.selects "HalfMast$Town" (⟨"HalfMast$Town", "flagUnder", "(III)I"⟩ : MethodName) (⟨"HalfMast$Town", "flagUnder", "(III)I"⟩ : MethodName) ∈ TB := tb_s 11 rfl rfl
theorem ks_12 : Cond.selects "HalfMast$Tape" (⟨"HalfMast$Tape", "append", "(J)V"⟩ : MethodName) (⟨"HalfMast$Tape", "append", "(J)V"⟩ : MethodName) ∈ TB := tb_s 12 rfl rfl
theorem ks_13 : Cond.selects "HalfMast$Town" (⟨"HalfMast$Town", "read", "(LHalfMast$Tape;)I"⟩ : MethodName) (⟨"HalfMast$Town", "read", "(LHalfMast$Tape;)I"⟩ : MethodName) ∈ TB := tb_s 13 rfl rfl
theorem ks_14 : Cond.selects "HalfMast$Tape" (⟨"HalfMast$Tape", "rewind", "()V"⟩ : MethodName) (⟨"HalfMast$Tape", "rewind", "()V"⟩ : MethodName) ∈ TB := tb_s 14 rfl rfl
theorem ks_15 : Cond.selects "HalfMast$Tape" (⟨"HalfMast$Tape", "advance", "()V"⟩ : MethodName) (⟨"HalfMast$Tape", "advance", "()V"⟩ : MethodName) ∈ TB := tb_s 15 rfl rfl
theorem ks_16 : Cond.selects "HalfMast$Tape" (⟨"HalfMast$Tape", "signAt", "(I)C"⟩ : MethodName) (⟨"HalfMast$Tape", "signAt", "(I)C"⟩ : MethodName) ∈ TB := tb_s 16 rfl rfl
theorem ks_17 : Cond.selects "HalfMast$Tape" (⟨"HalfMast$Tape", "takeInWord", "()V"⟩ : MethodName) (⟨"HalfMast$Tape", "takeInWord", "()V"⟩ : MethodName) ∈ TB := tb_s 17 rfl rfl
theorem ks_18 : Cond.selects "HalfMast$Tape" (⟨"HalfMast$Tape", "takeInNumber", "()V"⟩ : MethodName) (⟨"HalfMast$Tape", "takeInNumber", "()V"⟩ : MethodName) ∈ TB := tb_s 18 rfl rfl
theorem ks_19 : Cond.selects "HalfMast$Tape" (⟨"HalfMast$Tape", "goesOn", "()Z"⟩ : MethodName) (⟨"HalfMast$Tape", "goesOn", "()Z"⟩ : MethodName) ∈ TB := tb_s 19 rfl rfl
theorem ks_20 : Cond.selects "HalfMast$Town" (⟨"HalfMast$Town", "readLine", "(LHalfMast$Tape;)V"⟩ : MethodName) (⟨"HalfMast$Town", "readLine", "(LHalfMast$Tape;)V"⟩ : MethodName) ∈ TB := tb_s 20 rfl rfl
theorem ks_21 : Cond.selects "HalfMast$Town" (⟨"HalfMast$Town", "readPerson", "(LHalfMast$Tape;)V"⟩ : MethodName) (⟨"HalfMast$Town", "readPerson", "(LHalfMast$Tape;)V"⟩ : MethodName) ∈ TB := tb_s 21 rfl rfl
theorem ks_22 : Cond.selects "HalfMast$Tape" (⟨"HalfMast$Tape", "refuse", "(I)V"⟩ : MethodName) (⟨"HalfMast$Tape", "refuse", "(I)V"⟩ : MethodName) ∈ TB := tb_s 22 rfl rfl
theorem ks_23 : Cond.selects "HalfMast$Town" (⟨"HalfMast$Town", "takeNewName", "(LHalfMast$Tape;)J"⟩ : MethodName) (⟨"HalfMast$Town", "takeNewName", "(LHalfMast$Tape;)J"⟩ : MethodName) ∈ TB := tb_s 23 rfl rfl
theorem ks_24 : Cond.selects "HalfMast$Tape" (⟨"HalfMast$Tape", "atName", "()Z"⟩ : MethodName) (⟨"HalfMast$Tape", "atName", "()Z"⟩ : MethodName) ∈ TB := tb_s 24 rfl rfl
theorem ks_25 : Cond.selects "HalfMast$Town" (⟨"HalfMast$Town", "find", "(J)I"⟩ : MethodName) (⟨"HalfMast$Town", "find", "(J)I"⟩ : MethodName) ∈ TB := tb_s 25 rfl rfl
theorem ks_26 : Cond.selects "HalfMast$Tape" (⟨"HalfMast$Tape", "takeWord", "(LHalfMast$Word;)V"⟩ : MethodName) (⟨"HalfMast$Tape", "takeWord", "(LHalfMast$Word;)V"⟩ : MethodName) ∈ TB := tb_s 26 rfl rfl
theorem ks_27 : Cond.selects "HalfMast$Tape" (⟨"HalfMast$Tape", "atWord", "(LHalfMast$Word;)Z"⟩ : MethodName) (⟨"HalfMast$Tape", "atWord", "(LHalfMast$Word;)Z"⟩ : MethodName) ∈ TB := tb_s 27 rfl rfl
theorem ks_28 : Cond.selects "HalfMast$Tape" (⟨"HalfMast$Tape", "takeNumber", "(II)I"⟩ : MethodName) (⟨"HalfMast$Tape", "takeNumber", "(II)I"⟩ : MethodName) ∈ TB := tb_s 28 rfl rfl
theorem ks_29 : Cond.selects "HalfMast$Tape" (⟨"HalfMast$Tape", "atNumber", "()Z"⟩ : MethodName) (⟨"HalfMast$Tape", "atNumber", "()Z"⟩ : MethodName) ∈ TB := tb_s 29 rfl rfl
theorem ks_30 : Cond.selects "HalfMast$Town" (⟨"HalfMast$Town", "readFeels", "(LHalfMast$Tape;)V"⟩ : MethodName) (⟨"HalfMast$Town", "readFeels", "(LHalfMast$Tape;)V"⟩ : MethodName) ∈ TB := tb_s 30 rfl rfl
theorem ks_31 : Cond.selects "HalfMast$Town" (⟨"HalfMast$Town", "takePerson", "(LHalfMast$Tape;)I"⟩ : MethodName) (⟨"HalfMast$Town", "takePerson", "(LHalfMast$Tape;)I"⟩ : MethodName) ∈ TB := tb_s 31 rfl rfl
theorem ks_32 : Cond.selects "HalfMast$Town" (⟨"HalfMast$Town", "personAt", "(LHalfMast$Tape;)I"⟩ : MethodName) (⟨"HalfMast$Town", "personAt", "(LHalfMast$Tape;)I"⟩ : MethodName) ∈ TB := tb_s 32 rfl rfl
theorem ks_33 : Cond.selects "HalfMast$State" (⟨"HalfMast$State", "feels", "(II)Z"⟩ : MethodName) (⟨"HalfMast$State", "feels", "(II)Z"⟩ : MethodName) ∈ TB := tb_s 33 rfl rfl
theorem ks_34 : Cond.selects "HalfMast$State" (⟨"HalfMast$State", "turnFeeling", "(II)V"⟩ : MethodName) (⟨"HalfMast$State", "turnFeeling", "(II)V"⟩ : MethodName) ∈ TB := tb_s 34 rfl rfl
theorem ks_35 : Cond.selects "HalfMast$Town" (⟨"HalfMast$Town", "beginOnce", "(LHalfMast$Tape;I)V"⟩ : MethodName) (⟨"HalfMast$Town", "beginOnce", "(LHalfMast$Tape;I)V"⟩ : MethodName) ∈ TB := tb_s 35 rfl rfl
theorem ks_36 : Cond.selects "HalfMast$Law" (⟨"HalfMast$Law", "readWhole", "(LHalfMast$Tape;I)V"⟩ : MethodName) (⟨"HalfMast$Law", "readWhole", "(LHalfMast$Tape;I)V"⟩ : MethodName) ∈ TB := tb_s 36 rfl rfl
theorem ks_37 : Cond.selects "HalfMast$Law" (⟨"HalfMast$Law", "readTest", "(LHalfMast$Tape;I)V"⟩ : MethodName) (⟨"HalfMast$Law", "readTest", "(LHalfMast$Tape;I)V"⟩ : MethodName) ∈ TB := tb_s 37 rfl rfl
theorem ks_38 : Cond.selects "HalfMast$Law" (⟨"HalfMast$Law", "readSum", "(LHalfMast$Tape;I)V"⟩ : MethodName) (⟨"HalfMast$Law", "readSum", "(LHalfMast$Tape;I)V"⟩ : MethodName) ∈ TB := tb_s 38 rfl rfl
theorem ks_39 : Cond.selects "HalfMast$Law" (⟨"HalfMast$Law", "readProduct", "(LHalfMast$Tape;I)V"⟩ : MethodName) (⟨"HalfMast$Law", "readProduct", "(LHalfMast$Tape;I)V"⟩ : MethodName) ∈ TB := tb_s 39 rfl rfl
theorem ks_40 : Cond.selects "HalfMast$Law" (⟨"HalfMast$Law", "readPart", "(LHalfMast$Tape;I)V"⟩ : MethodName) (⟨"HalfMast$Law", "readPart", "(LHalfMast$Tape;I)V"⟩ : MethodName) ∈ TB := tb_s 40 rfl rfl
theorem ks_41 : Cond.selects "HalfMast$Tape" (⟨"HalfMast$Tape", "atSign", "(C)Z"⟩ : MethodName) (⟨"HalfMast$Tape", "atSign", "(C)Z"⟩ : MethodName) ∈ TB := tb_s 41 rfl rfl
theorem ks_42 : Cond.selects "HalfMast$Tape" (⟨"HalfMast$Tape", "takeSign", "(C)V"⟩ : MethodName) (⟨"HalfMast$Tape", "takeSign", "(C)V"⟩ : MethodName) ∈ TB := tb_s 42 rfl rfl
theorem ks_43 : Cond.selects "HalfMast$Tape" (⟨"HalfMast$Tape", "clear", "()V"⟩ : MethodName) (⟨"HalfMast$Tape", "clear", "()V"⟩ : MethodName) ∈ TB := tb_s 43 rfl rfl
theorem ks_44 : Cond.selects "HalfMast" (⟨"HalfMast", "moveToDraft", "()V"⟩ : MethodName) (⟨"HalfMast", "moveToDraft", "()V"⟩ : MethodName) ∈ TB := tb_s 44 rfl rfl
theorem ks_45 : Cond.selects "HalfMast$Year" (⟨"HalfMast$Year", "clear", "()V"⟩ : MethodName) (⟨"HalfMast$Year", "clear", "()V"⟩ : MethodName) ∈ TB := tb_s 45 rfl rfl
theorem ks_46 : Cond.selects "HalfMast$Notes" (⟨"HalfMast$Notes", "clear", "()V"⟩ : MethodName) (⟨"HalfMast$Notes", "clear", "()V"⟩ : MethodName) ∈ TB := tb_s 46 rfl rfl
theorem ks_47 : Cond.selects "HalfMast$History" (⟨"HalfMast$History", "clear", "()V"⟩ : MethodName) (⟨"HalfMast$History", "clear", "()V"⟩ : MethodName) ∈ TB := tb_s 47 rfl rfl
theorem ks_48 : Cond.selects "HalfMast" (⟨"HalfMast", "markAt", "(I)LHalfMast$Mark;"⟩ : MethodName) (⟨"HalfMast", "markAt", "(I)LHalfMast$Mark;"⟩ : MethodName) ∈ TB := tb_s 48 rfl rfl
theorem ks_49 : Cond.selects "HalfMast$Year" (⟨"HalfMast$Year", "read", "(LHalfMast$Tape;LHalfMast$Town;)I"⟩ : MethodName) (⟨"HalfMast$Year", "read", "(LHalfMast$Tape;LHalfMast$Town;)I"⟩ : MethodName) ∈ TB := tb_s 49 rfl rfl
theorem ks_50 : Cond.selects "HalfMast$Year" (⟨"HalfMast$Year", "readLine", "(LHalfMast$Tape;LHalfMast$Town;)V"⟩ : MethodName) (⟨"HalfMast$Year", "readLine", "(LHalfMast$Tape;LHalfMast$Town;)V"⟩ : MethodName) ∈ TB := tb_s 50 rfl rfl
theorem ks_51 : Cond.selects "HalfMast$Year" (⟨"HalfMast$Year", "takeSecond", "(LHalfMast$Tape;LHalfMast$Town;I)I"⟩ : MethodName) (⟨"HalfMast$Year", "takeSecond", "(LHalfMast$Tape;LHalfMast$Town;I)I"⟩ : MethodName) ∈ TB := tb_s 51 rfl rfl
theorem ks_52 : Cond.selects "HalfMast$Town" (⟨"HalfMast$Town", "takeOther", "(LHalfMast$Tape;I)I"⟩ : MethodName) (⟨"HalfMast$Town", "takeOther", "(LHalfMast$Tape;I)I"⟩ : MethodName) ∈ TB := tb_s 52 rfl rfl
theorem ks_53 : Cond.selects "HalfMast$Town" (⟨"HalfMast$Town", "has", "(I)Z"⟩ : MethodName) (⟨"HalfMast$Town", "has", "(I)Z"⟩ : MethodName) ∈ TB := tb_s 53 rfl rfl
theorem ks_54 : Cond.selects "HalfMast$Course" (⟨"HalfMast$Course", "lacking", "(I)I"⟩ : MethodName) (⟨"HalfMast$Course", "lacking", "(I)I"⟩ : MethodName) ∈ TB := tb_s 54 rfl rfl
theorem ks_55 : Cond.selects "HalfMast" (⟨"HalfMast", "lackMore", "(III)I"⟩ : MethodName) (⟨"HalfMast", "lackMore", "(III)I"⟩ : MethodName) ∈ TB := tb_s 55 rfl rfl
theorem ks_56 : Cond.selects "HalfMast$History" (⟨"HalfMast$History", "keep", "(LHalfMast$State;)V"⟩ : MethodName) (⟨"HalfMast$History", "keep", "(LHalfMast$State;)V"⟩ : MethodName) ∈ TB := tb_s 56 rfl rfl
theorem ks_57 : Cond.selects "HalfMast$History" (⟨"HalfMast$History", "stateAt", "(I)LHalfMast$State;"⟩ : MethodName) (⟨"HalfMast$History", "stateAt", "(I)LHalfMast$State;"⟩ : MethodName) ∈ TB := tb_s 57 rfl rfl
theorem ks_58 : Cond.selects "HalfMast$Course" (⟨"HalfMast$Course", "shift", "(II)V"⟩ : MethodName) (⟨"HalfMast$Course", "shift", "(II)V"⟩ : MethodName) ∈ TB := tb_s 58 rfl rfl
theorem ks_59 : Cond.selects "HalfMast$Course" (⟨"HalfMast$Course", "letOff", "(I)V"⟩ : MethodName) (⟨"HalfMast$Course", "letOff", "(I)V"⟩ : MethodName) ∈ TB := tb_s 59 rfl rfl
theorem ks_60 : Cond.selects "HalfMast$Course" (⟨"HalfMast$Course", "passDay", "()Z"⟩ : MethodName) (⟨"HalfMast$Course", "passDay", "()Z"⟩ : MethodName) ∈ TB := tb_s 60 rfl rfl
theorem ks_61 : Cond.selects "HalfMast$Course" (⟨"HalfMast$Course", "lackingTomorrow", "(I)I"⟩ : MethodName) (⟨"HalfMast$Course", "lackingTomorrow", "(I)I"⟩ : MethodName) ∈ TB := tb_s 61 rfl rfl
theorem ks_62 : Cond.selects "HalfMast$State" (⟨"HalfMast$State", "lackingMoreAmongFelt", "(I)I"⟩ : MethodName) (⟨"HalfMast$State", "lackingMoreAmongFelt", "(I)I"⟩ : MethodName) ∈ TB := tb_s 62 rfl rfl
theorem ks_63 : Cond.selects "HalfMast$Law" (⟨"HalfMast$Law", "tell", "(IIII)I"⟩ : MethodName) (⟨"HalfMast$Law", "tell", "(IIII)I"⟩ : MethodName) ∈ TB := tb_s 63 rfl rfl
theorem ks_64 : Cond.selects "HalfMast$History" (⟨"HalfMast$History", "takeLast", "()LHalfMast$State;"⟩ : MethodName) (⟨"HalfMast$History", "takeLast", "()LHalfMast$State;"⟩ : MethodName) ∈ TB := tb_s 64 rfl rfl
theorem ks_65 : Cond.selects "HalfMast$Year" (⟨"HalfMast$Year", "carryOut", "(ILHalfMast$Course;)V"⟩ : MethodName) (⟨"HalfMast$Year", "carryOut", "(ILHalfMast$Course;)V"⟩ : MethodName) ∈ TB := tb_s 65 rfl rfl
theorem ks_66 : Cond.selects "HalfMast$Course" (⟨"HalfMast$Course", "passDays", "(I)V"⟩ : MethodName) (⟨"HalfMast$Course", "passDays", "(I)V"⟩ : MethodName) ∈ TB := tb_s 66 rfl rfl
theorem ks_67 : Cond.selects "HalfMast$Course" (⟨"HalfMast$Course", "wayOfNextDay", "()I"⟩ : MethodName) (⟨"HalfMast$Course", "wayOfNextDay", "()I"⟩ : MethodName) ∈ TB := tb_s 67 rfl rfl
theorem ks_68 : Cond.selects "HalfMast" (⟨"HalfMast", "flagWithout", "(I)I"⟩ : MethodName) (⟨"HalfMast", "flagWithout", "(I)I"⟩ : MethodName) ∈ TB := tb_s 68 rfl rfl
theorem ks_69 : Cond.selects "HalfMast$Town" (⟨"HalfMast$Town", "flagBy", "(I)I"⟩ : MethodName) (⟨"HalfMast$Town", "flagBy", "(I)I"⟩ : MethodName) ∈ TB := tb_s 69 rfl rfl
theorem ks_70 : Cond.selects "HalfMast" (⟨"HalfMast", "firstToReach", "(II)I"⟩ : MethodName) (⟨"HalfMast", "firstToReach", "(II)I"⟩ : MethodName) ∈ TB := tb_s 70 rfl rfl
theorem ks_71 : Cond.selects "HalfMast" (⟨"HalfMast", "flagIfLacking", "(II)I"⟩ : MethodName) (⟨"HalfMast", "flagIfLacking", "(II)I"⟩ : MethodName) ∈ TB := tb_s 71 rfl rfl
theorem ks_72 : Cond.selects "HalfMast$Notes" (⟨"HalfMast$Notes", "add", "(II)Z"⟩ : MethodName) (⟨"HalfMast$Notes", "add", "(II)Z"⟩ : MethodName) ∈ TB := tb_s 72 rfl rfl
theorem ks_73 : Cond.selects "HalfMast" (⟨"HalfMast", "startWay", "(II)V"⟩ : MethodName) (⟨"HalfMast", "startWay", "(II)V"⟩ : MethodName) ∈ TB := tb_s 73 rfl rfl
theorem ks_74 : Cond.selects "HalfMast" (⟨"HalfMast", "bearsOut", "(LHalfMast$Notes;)Z"⟩ : MethodName) (⟨"HalfMast", "bearsOut", "(LHalfMast$Notes;)Z"⟩ : MethodName) ∈ TB := tb_s 74 rfl rfl
theorem ks_75 : Cond.selects "HalfMast$Notes" (⟨"HalfMast$Notes", "lastDay", "()I"⟩ : MethodName) (⟨"HalfMast$Notes", "lastDay", "()I"⟩ : MethodName) ∈ TB := tb_s 75 rfl rfl
theorem ks_76 : Cond.selects "HalfMast$Notes" (⟨"HalfMast$Notes", "agree", "(II)Z"⟩ : MethodName) (⟨"HalfMast$Notes", "agree", "(II)Z"⟩ : MethodName) ∈ TB := tb_s 76 rfl rfl
theorem ks_77 : Cond.selects "HalfMast" (⟨"HalfMast", "countStanding", "()V"⟩ : MethodName) (⟨"HalfMast", "countStanding", "()V"⟩ : MethodName) ∈ TB := tb_s 77 rfl rfl
theorem ks_78 : Cond.selects "HalfMast" (⟨"HalfMast", "mostAlike", "(I)I"⟩ : MethodName) (⟨"HalfMast", "mostAlike", "(I)I"⟩ : MethodName) ∈ TB := tb_s 78 rfl rfl
theorem ks_79 : Cond.selects "HalfMast$State" (⟨"HalfMast$State", "feltFrom", "(I)I"⟩ : MethodName) (⟨"HalfMast$State", "feltFrom", "(I)I"⟩ : MethodName) ∈ TB := tb_s 79 rfl rfl
theorem ks_80 : Cond.selects "HalfMast$State" (⟨"HalfMast$State", "feltBy", "(I)I"⟩ : MethodName) (⟨"HalfMast$State", "feltBy", "(I)I"⟩ : MethodName) ∈ TB := tb_s 80 rfl rfl
theorem ks_81 : Cond.selects "HalfMast" (⟨"HalfMast", "isFirstOfGroup", "(I)Z"⟩ : MethodName) (⟨"HalfMast", "isFirstOfGroup", "(I)Z"⟩ : MethodName) ∈ TB := tb_s 81 rfl rfl
theorem ks_82 : Cond.selects "HalfMast" (⟨"HalfMast", "lacksMoreThanFelt", "(I)Z"⟩ : MethodName) (⟨"HalfMast", "lacksMoreThanFelt", "(I)Z"⟩ : MethodName) ∈ TB := tb_s 82 rfl rfl
theorem ks_83 : Cond.selects "HalfMast" (⟨"HalfMast", "lackedByAll", "(LHalfMast$Course;)I"⟩ : MethodName) (⟨"HalfMast", "lackedByAll", "(LHalfMast$Course;)I"⟩ : MethodName) ∈ TB := tb_s 83 rfl rfl
theorem ks_84 : Cond.selects "HalfMast" (⟨"HalfMast", "flagByTeeth", "(III)I"⟩ : MethodName) (⟨"HalfMast", "flagByTeeth", "(III)I"⟩ : MethodName) ∈ TB := tb_s 84 rfl rfl
theorem ks_85 : Cond.selects "HalfMast" (⟨"HalfMast", "doByDraws", "()V"⟩ : MethodName) (⟨"HalfMast", "doByDraws", "()V"⟩ : MethodName) ∈ TB := tb_s 85 rfl rfl
theorem ks_86 : Cond.selects "HalfMast" (⟨"HalfMast", "draw", "(I)I"⟩ : MethodName) (⟨"HalfMast", "draw", "(I)I"⟩ : MethodName) ∈ TB := tb_s 86 rfl rfl
theorem ks_87 : Cond.selects "HalfMast" (⟨"HalfMast", "goBack", "(LHalfMast$Mark;)Z"⟩ : MethodName) (⟨"HalfMast", "goBack", "(LHalfMast$Mark;)Z"⟩ : MethodName) ∈ TB := tb_s 87 rfl rfl
theorem ks_88 : Cond.selects "HalfMast$Notes" (⟨"HalfMast$Notes", "copy", "(LHalfMast$Notes;)V"⟩ : MethodName) (⟨"HalfMast$Notes", "copy", "(LHalfMast$Notes;)V"⟩ : MethodName) ∈ TB := tb_s 88 rfl rfl
theorem ks_89 : Cond.selects "HalfMast" (⟨"HalfMast", "lay", "(LHalfMast$Mark;)Z"⟩ : MethodName) (⟨"HalfMast", "lay", "(LHalfMast$Mark;)Z"⟩ : MethodName) ∈ TB := tb_s 89 rfl rfl
theorem ks_90 : Cond.selects "HalfMast" (⟨"HalfMast", "whoLacks", "()I"⟩ : MethodName) (⟨"HalfMast", "whoLacks", "()I"⟩ : MethodName) ∈ TB := tb_s 90 rfl rfl
theorem ks_91 : Cond.selects "java/lang/Throwable" (⟨"java/lang/Throwable", "fillInStackTrace", "(I)Ljava/lang/Throwable;"⟩ : MethodName) (⟨"java/lang/Throwable", "fillInStackTrace", "(I)Ljava/lang/Throwable;"⟩ : MethodName) ∈ TB := tb_s 91 rfl rfl
theorem ks_92 : Cond.selects "HalfMastModel" (⟨"HalfMastModel", "lay", "(J)V"⟩ : MethodName) (⟨"HalfMastModel", "lay", "(J)V"⟩ : MethodName) ∈ TB := tb_s 92 rfl rfl
theorem ks_93 : Cond.selects "HalfMastModel" (⟨"HalfMastModel", "standsAsAlways", "(I)V"⟩ : MethodName) (⟨"HalfMastModel", "standsAsAlways", "(I)V"⟩ : MethodName) ∈ TB := tb_s 93 rfl rfl
theorem ks_94 : Cond.selects "HalfMastModel" (⟨"HalfMastModel", "begins", "()V"⟩ : MethodName) (⟨"HalfMastModel", "begins", "()V"⟩ : MethodName) ∈ TB := tb_s 94 rfl rfl
theorem ks_95 : Cond.selects "HalfMastModel" (⟨"HalfMastModel", "rulesAsTold", "()V"⟩ : MethodName) (⟨"HalfMastModel", "rulesAsTold", "()V"⟩ : MethodName) ∈ TB := tb_s 95 rfl rfl
theorem ks_96 : Cond.selects "HalfMastModel" (⟨"HalfMastModel", "starts", "(I)V"⟩ : MethodName) (⟨"HalfMastModel", "starts", "(I)V"⟩ : MethodName) ∈ TB := tb_s 96 rfl rfl
theorem ks_97 : Cond.selects "HalfMastModel" (⟨"HalfMastModel", "persons", "()I"⟩ : MethodName) (⟨"HalfMastModel", "persons", "()I"⟩ : MethodName) ∈ TB := tb_s 97 rfl rfl
theorem ks_98 : Cond.selects "HalfMastModel" (⟨"HalfMastModel", "personOf", "(II)I"⟩ : MethodName) (⟨"HalfMastModel", "personOf", "(II)I"⟩ : MethodName) ∈ TB := tb_s 98 rfl rfl
theorem ks_99 : Cond.selects "HalfMastModel" (⟨"HalfMastModel", "cutAll", "()V"⟩ : MethodName) (⟨"HalfMastModel", "cutAll", "()V"⟩ : MethodName) ∈ TB := tb_s 99 rfl rfl
theorem ks_100 : Cond.selects "HalfMastModel" (⟨"HalfMastModel", "readLine", "()V"⟩ : MethodName) (⟨"HalfMastModel", "readLine", "()V"⟩ : MethodName) ∈ TB := tb_s 100 rfl rfl
theorem ks_101 : Cond.selects "HalfMastModel" (⟨"HalfMastModel", "isWord", "(I)Z"⟩ : MethodName) (⟨"HalfMastModel", "isWord", "(I)Z"⟩ : MethodName) ∈ TB := tb_s 101 rfl rfl
theorem ks_102 : Cond.selects "HalfMastModel" (⟨"HalfMastModel", "readPerson", "()V"⟩ : MethodName) (⟨"HalfMastModel", "readPerson", "()V"⟩ : MethodName) ∈ TB := tb_s 102 rfl rfl
theorem ks_103 : Cond.selects "HalfMastModel" (⟨"HalfMastModel", "wrong", "(I)V"⟩ : MethodName) (⟨"HalfMastModel", "wrong", "(I)V"⟩ : MethodName) ∈ TB := tb_s 103 rfl rfl
theorem ks_104 : Cond.selects "HalfMastModel" (⟨"HalfMastModel", "isName", "()Z"⟩ : MethodName) (⟨"HalfMastModel", "isName", "()Z"⟩ : MethodName) ∈ TB := tb_s 104 rfl rfl
theorem ks_105 : Cond.selects "HalfMastModel" (⟨"HalfMastModel", "wordHere", "(II)I"⟩ : MethodName) (⟨"HalfMastModel", "wordHere", "(II)I"⟩ : MethodName) ∈ TB := tb_s 105 rfl rfl
theorem ks_106 : Cond.selects "HalfMastModel" (⟨"HalfMastModel", "nameAt", "(Z)I"⟩ : MethodName) (⟨"HalfMastModel", "nameAt", "(Z)I"⟩ : MethodName) ∈ TB := tb_s 106 rfl rfl
theorem ks_107 : Cond.selects "HalfMastModel" (⟨"HalfMastModel", "takeOne", "(II)I"⟩ : MethodName) (⟨"HalfMastModel", "takeOne", "(II)I"⟩ : MethodName) ∈ TB := tb_s 107 rfl rfl
theorem ks_108 : Cond.selects "HalfMastModel" (⟨"HalfMastModel", "takeAfter", "(III)I"⟩ : MethodName) (⟨"HalfMastModel", "takeAfter", "(III)I"⟩ : MethodName) ∈ TB := tb_s 108 rfl rfl
theorem ks_109 : Cond.selects "HalfMastModel" (⟨"HalfMastModel", "takeWord", "(I)V"⟩ : MethodName) (⟨"HalfMastModel", "takeWord", "(I)V"⟩ : MethodName) ∈ TB := tb_s 109 rfl rfl
theorem ks_110 : Cond.selects "HalfMastModel" (⟨"HalfMastModel", "hasWord", "(I)Z"⟩ : MethodName) (⟨"HalfMastModel", "hasWord", "(I)Z"⟩ : MethodName) ∈ TB := tb_s 110 rfl rfl
theorem ks_111 : Cond.selects "HalfMastModel" (⟨"HalfMastModel", "takeNumber", "(II)I"⟩ : MethodName) (⟨"HalfMastModel", "takeNumber", "(II)I"⟩ : MethodName) ∈ TB := tb_s 111 rfl rfl
theorem ks_112 : Cond.selects "HalfMastModel" (⟨"HalfMastModel", "takeTold", "(ZI)I"⟩ : MethodName) (⟨"HalfMastModel", "takeTold", "(ZI)I"⟩ : MethodName) ∈ TB := tb_s 112 rfl rfl
theorem ks_113 : Cond.selects "HalfMastModel" (⟨"HalfMastModel", "readOnce", "()V"⟩ : MethodName) (⟨"HalfMastModel", "readOnce", "()V"⟩ : MethodName) ∈ TB := tb_s 113 rfl rfl
theorem ks_114 : Cond.selects "HalfMastModel" (⟨"HalfMastModel", "whole", "(I)V"⟩ : MethodName) (⟨"HalfMastModel", "whole", "(I)V"⟩ : MethodName) ∈ TB := tb_s 114 rfl rfl
theorem ks_115 : Cond.selects "HalfMastModel" (⟨"HalfMastModel", "test", "(I)V"⟩ : MethodName) (⟨"HalfMastModel", "test", "(I)V"⟩ : MethodName) ∈ TB := tb_s 115 rfl rfl
theorem ks_116 : Cond.selects "HalfMastModel" (⟨"HalfMastModel", "sums", "(I)V"⟩ : MethodName) (⟨"HalfMastModel", "sums", "(I)V"⟩ : MethodName) ∈ TB := tb_s 116 rfl rfl
theorem ks_117 : Cond.selects "HalfMastModel" (⟨"HalfMastModel", "products", "(I)V"⟩ : MethodName) (⟨"HalfMastModel", "products", "(I)V"⟩ : MethodName) ∈ TB := tb_s 117 rfl rfl
theorem ks_118 : Cond.selects "HalfMastModel" (⟨"HalfMastModel", "takePart", "(I)V"⟩ : MethodName) (⟨"HalfMastModel", "takePart", "(I)V"⟩ : MethodName) ∈ TB := tb_s 118 rfl rfl
theorem ks_119 : Cond.selects "HalfMastModel" (⟨"HalfMastModel", "isSign", "(I)Z"⟩ : MethodName) (⟨"HalfMastModel", "isSign", "(I)Z"⟩ : MethodName) ∈ TB := tb_s 119 rfl rfl
theorem ks_120 : Cond.selects "HalfMastModel" (⟨"HalfMastModel", "emit", "(II)V"⟩ : MethodName) (⟨"HalfMastModel", "emit", "(II)V"⟩ : MethodName) ∈ TB := tb_s 120 rfl rfl
theorem ks_121 : Cond.selects "HalfMastModel" (⟨"HalfMastModel", "hasSign", "(I)Z"⟩ : MethodName) (⟨"HalfMastModel", "hasSign", "(I)Z"⟩ : MethodName) ∈ TB := tb_s 121 rfl rfl
theorem ks_122 : Cond.selects "HalfMastModel" (⟨"HalfMastModel", "takeSign", "(I)V"⟩ : MethodName) (⟨"HalfMastModel", "takeSign", "(I)V"⟩ : MethodName) ∈ TB := tb_s 122 rfl rfl
theorem ks_123 : Cond.selects "HalfMastModel" (⟨"HalfMastModel", "highOf", "(I)I"⟩ : MethodName) (⟨"HalfMastModel", "highOf", "(I)I"⟩ : MethodName) ∈ TB := tb_s 123 rfl rfl
theorem ks_124 : Cond.selects "HalfMastModel" (⟨"HalfMastModel", "weighsAll", "(I)I"⟩ : MethodName) (⟨"HalfMastModel", "weighsAll", "(I)I"⟩ : MethodName) ∈ TB := tb_s 124 rfl rfl
theorem ks_125 : Cond.selects "HalfMastModel" (⟨"HalfMastModel", "weighsOf", "(II)I"⟩ : MethodName) (⟨"HalfMastModel", "weighsOf", "(II)I"⟩ : MethodName) ∈ TB := tb_s 125 rfl rfl
theorem ks_126 : Cond.selects "HalfMastModel" (⟨"HalfMastModel", "highBy", "(I)I"⟩ : MethodName) (⟨"HalfMastModel", "highBy", "(I)I"⟩ : MethodName) ∈ TB := tb_s 126 rfl rfl
theorem ks_127 : Cond.selects "HalfMastModel" (⟨"HalfMastModel", "isPerson", "(I)Z"⟩ : MethodName) (⟨"HalfMastModel", "isPerson", "(I)Z"⟩ : MethodName) ∈ TB := tb_s 127 rfl rfl
theorem ks_128 : Cond.selects "HalfMastModel" (⟨"HalfMastModel", "keeps", "()V"⟩ : MethodName) (⟨"HalfMastModel", "keeps", "()V"⟩ : MethodName) ∈ TB := tb_s 128 rfl rfl
theorem ks_129 : Cond.selects "HalfMastModel" (⟨"HalfMastModel", "copies", "(III)V"⟩ : MethodName) (⟨"HalfMastModel", "copies", "(III)V"⟩ : MethodName) ∈ TB := tb_s 129 rfl rfl
theorem ks_130 : Cond.selects "HalfMastModel" (⟨"HalfMastModel", "loses", "(III)V"⟩ : MethodName) (⟨"HalfMastModel", "loses", "(III)V"⟩ : MethodName) ∈ TB := tb_s 130 rfl rfl
theorem ks_131 : Cond.selects "HalfMastModel" (⟨"HalfMastModel", "passes", "(I)Z"⟩ : MethodName) (⟨"HalfMastModel", "passes", "(I)Z"⟩ : MethodName) ∈ TB := tb_s 131 rfl rfl
theorem ks_132 : Cond.selects "HalfMastModel" (⟨"HalfMastModel", "doesFeel", "(III)Z"⟩ : MethodName) (⟨"HalfMastModel", "doesFeel", "(III)Z"⟩ : MethodName) ∈ TB := tb_s 132 rfl rfl
theorem ks_133 : Cond.selects "HalfMastModel" (⟨"HalfMastModel", "worthAt", "(I)I"⟩ : MethodName) (⟨"HalfMastModel", "worthAt", "(I)I"⟩ : MethodName) ∈ TB := tb_s 133 rfl rfl
theorem ks_134 : Cond.selects "HalfMastModel" (⟨"HalfMastModel", "triesNow", "()V"⟩ : MethodName) (⟨"HalfMastModel", "triesNow", "()V"⟩ : MethodName) ∈ TB := tb_s 134 rfl rfl
theorem ks_135 : Cond.selects "HalfMastModel" (⟨"HalfMastModel", "highBehind", "(I)I"⟩ : MethodName) (⟨"HalfMastModel", "highBehind", "(I)I"⟩ : MethodName) ∈ TB := tb_s 135 rfl rfl
theorem ks_136 : Cond.selects "HalfMastModel" (⟨"HalfMastModel", "movesIn", "(IZ)I"⟩ : MethodName) (⟨"HalfMastModel", "movesIn", "(IZ)I"⟩ : MethodName) ∈ TB := tb_s 136 rfl rfl
theorem ks_137 : Cond.selects "HalfMastModel" (⟨"HalfMastModel", "highWithout", "(I)I"⟩ : MethodName) (⟨"HalfMastModel", "highWithout", "(I)I"⟩ : MethodName) ∈ TB := tb_s 137 rfl rfl
theorem ks_138 : Cond.selects "HalfMastModel" (⟨"HalfMastModel", "highIf", "(II)I"⟩ : MethodName) (⟨"HalfMastModel", "highIf", "(II)I"⟩ : MethodName) ∈ TB := tb_s 138 rfl rfl
theorem ks_139 : Cond.selects "HalfMastModel" (⟨"HalfMastModel", "isSeen", "(II)Z"⟩ : MethodName) (⟨"HalfMastModel", "isSeen", "(II)Z"⟩ : MethodName) ∈ TB := tb_s 139 rfl rfl
theorem ks_140 : Cond.selects "HalfMastModel" (⟨"HalfMastModel", "isMeasured", "(II)Z"⟩ : MethodName) (⟨"HalfMastModel", "isMeasured", "(II)Z"⟩ : MethodName) ∈ TB := tb_s 140 rfl rfl
theorem ks_141 : Cond.selects "HalfMastModel" (⟨"HalfMastModel", "feltIn", "(II)I"⟩ : MethodName) (⟨"HalfMastModel", "feltIn", "(II)I"⟩ : MethodName) ∈ TB := tb_s 141 rfl rfl
theorem ks_142 : Cond.selects "HalfMastModel" (⟨"HalfMastModel", "lacksAll", "(I)I"⟩ : MethodName) (⟨"HalfMastModel", "lacksAll", "(I)I"⟩ : MethodName) ∈ TB := tb_s 142 rfl rfl
theorem ks_143 : Cond.selects "HalfMastModel" (⟨"HalfMastModel", "drawsDeed", "()V"⟩ : MethodName) (⟨"HalfMastModel", "drawsDeed", "()V"⟩ : MethodName) ∈ TB := tb_s 143 rfl rfl
theorem ks_144 : Cond.selects "HalfMastModel" (⟨"HalfMastModel", "draw", "(I)I"⟩ : MethodName) (⟨"HalfMastModel", "draw", "(I)I"⟩ : MethodName) ∈ TB := tb_s 144 rfl rfl
theorem ks_145 : Cond.selects "HalfMastModel" (⟨"HalfMastModel", "lacking", "()I"⟩ : MethodName) (⟨"HalfMastModel", "lacking", "()I"⟩ : MethodName) ∈ TB := tb_s 145 rfl rfl
