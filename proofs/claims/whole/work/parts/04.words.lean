/-- the tables' words that outlive a warming -/
def wA : List Cond := lw_tbl.filter goodWord
theorem kA {i : Nat} {w : Cond} (h : tables_1[i]? = some w) (g : goodWord w = true) : w ∈ wA := List.mem_filter.mpr ⟨List.mem_append_right _ (List.mem_of_getElem? h), g⟩
theorem kS {i : Nat} {w : Cond} (h : (k2_sels lw_privs)[i]? = some w) (g : goodWord w = true) : w ∈ wA := List.mem_filter.mpr ⟨List.mem_append_left _ (List.mem_of_getElem? h), g⟩
theorem wA_hts {args : Array Value} {s : State} (h : ∀ w ∈ lw_tbl, w.before args s = true) : ∀ w ∈ wA, w.before args s = true := fun w hw => h w (List.mem_filter.mp hw).1
theorem wA_good {w : Cond} (h : w ∈ wA) : w ∈ wA ∧ ((w.onTables && w.keeps) = true ∨ ∃ ty, w = .arrayClass ty) := ⟨h, good_of_word (List.mem_filter.mp h).2⟩
abbrev wz (y : MethodName) (b : ByteArray) (n : Nat) (r : Option FieldType) : List Cond := .code y b n r :: wA
theorem gdC {y : MethodName} {b : ByteArray} {n : Nat} {r : Option FieldType} (h : Cond.code y b n r ∈ wA) : GoodIn wA (wz y b n r) := fun w hw => (List.mem_cons.mp hw).elim (fun e => by rw [e]; exact wA_good h) wA_good
theorem gdV {own : String} {idx : Nat} {C : String} {y : MethodName} {b : ByteArray} {n : Nat} {r : Option FieldType} (h1 : Cond.methodLink own idx y ∈ wA) (h2 : Cond.instanceMethod y ∈ wA) (h3 : Cond.selects C y y ∈ wA) (h4 : Cond.initialized C ∈ wA) (h5 : Cond.code y b n r ∈ wA) : GoodIn wA (wsV own idx C y (wz y b n r)) := by
  intro w hw
  rcases List.mem_append.mp hw with hw | hw
  · simp only [List.mem_cons, List.not_mem_nil, or_false] at hw
    rcases hw with rfl | rfl | rfl | rfl
    · exact wA_good h1
    · exact wA_good h2
    · exact wA_good h3
    · exact wA_good h4
  · exact gdC h5 w hw
theorem gdS {own : String} {idx : Nat} {y : MethodName} {b : ByteArray} {n : Nat} {r : Option FieldType} (h1 : Cond.methodLink own idx y ∈ wA) (h2 : Cond.static y ∈ wA) (h4 : Cond.initialized y.cls ∈ wA) (h5 : Cond.code y b n r ∈ wA) : GoodIn wA (va_wsS own idx y (wz y b n r)) := by
  intro w hw
  rcases List.mem_append.mp hw with hw | hw
  · simp only [List.mem_cons, List.not_mem_nil, or_false] at hw
    rcases hw with rfl | rfl | rfl
    · exact wA_good h1
    · exact wA_good h2
    · exact wA_good h4
  · exact gdC h5 w hw
def kNest : Cond → Bool
  | .fieldLinkNest _ _ _ _ _ _ => true
  | .methodLinkNest _ _ _ _ => true
  | .declares _ => true
  | .castable _ _ => true
  | _ => false
/-- the words between nest mates, and those on members and casts -/
def wN : List Cond := tables_1.filter kNest
theorem kN {i : Nat} {w : Cond} (h : tables_1[i]? = some w) (g : kNest w = true) : w ∈ wN := List.mem_filter.mpr ⟨List.mem_of_getElem? h, g⟩
theorem k_0 : (Jvm.Cond.initialized "ChordGrammarsLaw") ∈ wA := kA (i := 0) (by decide +kernel) rfl
theorem k_1 : (Jvm.Cond.initialized "ChordGrammars") ∈ wA := kA (i := 1) (by decide +kernel) rfl
theorem k_2 : (Jvm.Cond.initialized "ChordGrammars$Key") ∈ wA := kA (i := 2) (by decide +kernel) rfl
theorem k_3 : (Jvm.Cond.initialized "ChordGrammars$Tariff") ∈ wA := kA (i := 3) (by decide +kernel) rfl
theorem k_4 : (Jvm.Cond.initialized "ChordGrammars$Slots") ∈ wA := kA (i := 4) (by decide +kernel) rfl
theorem k_5 : (Jvm.Cond.initialized "ChordGrammars$Draft") ∈ wA := kA (i := 5) (by decide +kernel) rfl
theorem k_6 : (Jvm.Cond.initialized "ChordGrammars$Grammar") ∈ wA := kA (i := 6) (by decide +kernel) rfl
theorem k_7 : (Jvm.Cond.initialized "ChordGrammars$Reader") ∈ wA := kA (i := 7) (by decide +kernel) rfl
theorem k_8 : (Jvm.Cond.initialized "ChordGrammars$Chart") ∈ wA := kA (i := 8) (by decide +kernel) rfl
theorem k_9 : (Jvm.Cond.initialized "ChordGrammars$Symbols") ∈ wA := kA (i := 9) (by decide +kernel) rfl
theorem k_10 : (Jvm.Cond.initialized "ChordGrammars$Tree") ∈ wA := kA (i := 10) (by decide +kernel) rfl
theorem k_11 : (Jvm.Cond.initialized "ChordGrammarsModel") ∈ wA := kA (i := 11) (by decide +kernel) rfl
theorem k_12 : (Jvm.Cond.initialized "java/lang/String") ∈ wA := kA (i := 12) (by decide +kernel) rfl
theorem k_13 : (Jvm.Cond.initialized "java/lang/StringLatin1") ∈ wA := kA (i := 13) (by decide +kernel) rfl
theorem k_14 : (Jvm.Cond.initialized "java/lang/Math") ∈ wA := kA (i := 14) (by decide +kernel) rfl
theorem k_15 : (Jvm.Cond.initialized "java/lang/StringUTF16") ∈ wA := kA (i := 15) (by decide +kernel) rfl
theorem k_16 : (Jvm.Cond.initialized "jdk/internal/util/Preconditions") ∈ wA := kA (i := 16) (by decide +kernel) rfl
theorem k_17 : (Jvm.Cond.initialized "java/lang/Character") ∈ wA := kA (i := 17) (by decide +kernel) rfl
theorem k_18 : (Jvm.Cond.initialized "java/lang/Integer") ∈ wA := kA (i := 18) (by decide +kernel) rfl
theorem k_19 : (Jvm.Cond.initialized "java/lang/System") ∈ wA := kA (i := 19) (by decide +kernel) rfl
theorem k_20 : (Jvm.Cond.initialized "java/lang/Throwable") ∈ wA := kA (i := 20) (by decide +kernel) rfl
theorem k_21 : (Jvm.Cond.initialized "java/lang/Exception") ∈ wA := kA (i := 21) (by decide +kernel) rfl
theorem k_22 : (Jvm.Cond.initialized "java/lang/RuntimeException") ∈ wA := kA (i := 22) (by decide +kernel) rfl
theorem k_23 : (Jvm.Cond.initialized "java/lang/IndexOutOfBoundsException") ∈ wA := kA (i := 23) (by decide +kernel) rfl
theorem k_24 : (Jvm.Cond.initialized "java/lang/ArrayIndexOutOfBoundsException") ∈ wA := kA (i := 24) (by decide +kernel) rfl
theorem k_25 : (Jvm.Cond.classLink "ChordGrammarsLaw" (8 : Nat) "ChordGrammars") ∈ wA := kA (i := 25) (by decide +kernel) rfl
theorem k_26 : (Jvm.Cond.instantiable "ChordGrammars" (8 : Nat)) ∈ wA := kA (i := 26) (by decide +kernel) rfl
theorem k_27 : (Jvm.Cond.methodLink "ChordGrammarsLaw" (15 : Nat) ({ cls := "ChordGrammars", name := "<init>", desc := "()V" } : Jvm.MethodName)) ∈ wA := kA (i := 27) (by decide +kernel) rfl
theorem k_28 : (Jvm.Cond.instanceMethod ({ cls := "ChordGrammars", name := "<init>", desc := "()V" } : Jvm.MethodName)) ∈ wA := kA (i := 28) (by decide +kernel) rfl
theorem k_29 : (Jvm.Cond.code ({ cls := "ChordGrammars", name := "<init>", desc := "()V" } : Jvm.MethodName) prog_1_method_1_code (1 : Nat) (Option.none : Option Jvm.ClassFile.FieldType)) ∈ wA := kA (i := 29) (by decide +kernel) rfl
theorem k_30 : (Jvm.Cond.methodLink "ChordGrammars" (3 : Nat) ({ cls := "java/lang/Object", name := "<init>", desc := "()V" } : Jvm.MethodName)) ∈ wA := kA (i := 30) (by decide +kernel) rfl
theorem k_31 : (Jvm.Cond.instanceMethod ({ cls := "java/lang/Object", name := "<init>", desc := "()V" } : Jvm.MethodName)) ∈ wA := kA (i := 31) (by decide +kernel) rfl
theorem k_32 : (Jvm.Cond.code ({ cls := "java/lang/Object", name := "<init>", desc := "()V" } : Jvm.MethodName) object_method_1_code (1 : Nat) (Option.none : Option Jvm.ClassFile.FieldType)) ∈ wA := kA (i := 32) (by decide +kernel) rfl
theorem k_33 : (Jvm.Cond.classLink "ChordGrammars" (9 : Nat) "ChordGrammars$Key") ∈ wA := kA (i := 33) (by decide +kernel) rfl
theorem k_34 : (Jvm.Cond.instantiable "ChordGrammars$Key" (2 : Nat)) ∈ wA := kA (i := 34) (by decide +kernel) rfl
theorem kn_35 : (Jvm.Cond.methodLinkNest "ChordGrammars" (11 : Nat) ({ cls := "ChordGrammars$Key", name := "<init>", desc := "()V" } : Jvm.MethodName) "ChordGrammars") ∈ wN := kN (i := 35) (by decide +kernel) rfl
theorem k_36 : (Jvm.Cond.instanceMethod ({ cls := "ChordGrammars$Key", name := "<init>", desc := "()V" } : Jvm.MethodName)) ∈ wA := kA (i := 36) (by decide +kernel) rfl
theorem k_37 : (Jvm.Cond.code ({ cls := "ChordGrammars$Key", name := "<init>", desc := "()V" } : Jvm.MethodName) prog_5_method_1_code (1 : Nat) (Option.none : Option Jvm.ClassFile.FieldType)) ∈ wA := kA (i := 37) (by decide +kernel) rfl
theorem k_38 : (Jvm.Cond.methodLink "ChordGrammars$Key" (3 : Nat) ({ cls := "java/lang/Object", name := "<init>", desc := "()V" } : Jvm.MethodName)) ∈ wA := kA (i := 38) (by decide +kernel) rfl
theorem k_39 : (Jvm.Cond.fieldLink "ChordGrammars$Key" (9 : Nat) "ChordGrammars$Key" "tonic" "I") ∈ wA := kA (i := 39) (by decide +kernel) rfl
theorem k_40 : (Jvm.Cond.fieldLink "ChordGrammars$Key" (15 : Nat) "ChordGrammars$Key" "isMinor" "Z") ∈ wA := kA (i := 40) (by decide +kernel) rfl
theorem k_45 : (Jvm.Cond.superclass "ChordGrammars$Key" "java/lang/Object") ∈ wA := kA (i := 45) (by decide +kernel) rfl
theorem k_46 : (Jvm.Cond.classLink "ChordGrammars" (16 : Nat) "ChordGrammars$Tariff") ∈ wA := kA (i := 46) (by decide +kernel) rfl
theorem k_47 : (Jvm.Cond.instantiable "ChordGrammars$Tariff" (1 : Nat)) ∈ wA := kA (i := 47) (by decide +kernel) rfl
theorem kn_48 : (Jvm.Cond.methodLinkNest "ChordGrammars" (18 : Nat) ({ cls := "ChordGrammars$Tariff", name := "<init>", desc := "()V" } : Jvm.MethodName) "ChordGrammars") ∈ wN := kN (i := 48) (by decide +kernel) rfl
theorem k_49 : (Jvm.Cond.instanceMethod ({ cls := "ChordGrammars$Tariff", name := "<init>", desc := "()V" } : Jvm.MethodName)) ∈ wA := kA (i := 49) (by decide +kernel) rfl
theorem k_50 : (Jvm.Cond.code ({ cls := "ChordGrammars$Tariff", name := "<init>", desc := "()V" } : Jvm.MethodName) prog_9_method_1_code (1 : Nat) (Option.none : Option Jvm.ClassFile.FieldType)) ∈ wA := kA (i := 50) (by decide +kernel) rfl
theorem k_51 : (Jvm.Cond.methodLink "ChordGrammars$Tariff" (3 : Nat) ({ cls := "java/lang/Object", name := "<init>", desc := "()V" } : Jvm.MethodName)) ∈ wA := kA (i := 51) (by decide +kernel) rfl
theorem k_52 : (Jvm.Cond.fieldLink "ChordGrammars$Tariff" (9 : Nat) "ChordGrammars$Tariff" "costs" "[I") ∈ wA := kA (i := 52) (by decide +kernel) rfl
theorem k_55 : (Jvm.Cond.superclass "ChordGrammars$Tariff" "java/lang/Object") ∈ wA := kA (i := 55) (by decide +kernel) rfl
theorem k_56 : (Jvm.Cond.arrayClass Jvm.ClassFile.FieldType.int) ∈ wA := kA (i := 56) (by decide +kernel) rfl
theorem k_57 : (Jvm.Cond.classLink "ChordGrammars" (23 : Nat) "ChordGrammars$Slots") ∈ wA := kA (i := 57) (by decide +kernel) rfl
theorem k_58 : (Jvm.Cond.instantiable "ChordGrammars$Slots" (4 : Nat)) ∈ wA := kA (i := 58) (by decide +kernel) rfl
theorem kn_59 : (Jvm.Cond.methodLinkNest "ChordGrammars" (25 : Nat) ({ cls := "ChordGrammars$Slots", name := "<init>", desc := "()V" } : Jvm.MethodName) "ChordGrammars") ∈ wN := kN (i := 59) (by decide +kernel) rfl
theorem k_60 : (Jvm.Cond.instanceMethod ({ cls := "ChordGrammars$Slots", name := "<init>", desc := "()V" } : Jvm.MethodName)) ∈ wA := kA (i := 60) (by decide +kernel) rfl
theorem k_61 : (Jvm.Cond.code ({ cls := "ChordGrammars$Slots", name := "<init>", desc := "()V" } : Jvm.MethodName) prog_7_method_1_code (1 : Nat) (Option.none : Option Jvm.ClassFile.FieldType)) ∈ wA := kA (i := 61) (by decide +kernel) rfl
theorem k_62 : (Jvm.Cond.methodLink "ChordGrammars$Slots" (3 : Nat) ({ cls := "java/lang/Object", name := "<init>", desc := "()V" } : Jvm.MethodName)) ∈ wA := kA (i := 62) (by decide +kernel) rfl
theorem k_63 : (Jvm.Cond.fieldLink "ChordGrammars$Slots" (9 : Nat) "ChordGrammars$Slots" "sets" "[I") ∈ wA := kA (i := 63) (by decide +kernel) rfl
theorem kn_64 : (Jvm.Cond.fieldLinkNest "ChordGrammars$Symbols" (34 : Nat) "ChordGrammars$Slots" "sets" "[I" "ChordGrammars") ∈ wN := kN (i := 64) (by decide +kernel) rfl
theorem kn_65 : (Jvm.Cond.fieldLinkNest "ChordGrammars" (105 : Nat) "ChordGrammars$Slots" "sets" "[I" "ChordGrammars") ∈ wN := kN (i := 65) (by decide +kernel) rfl
theorem k_66 : (Jvm.Cond.fieldLink "ChordGrammars$Slots" (15 : Nat) "ChordGrammars$Slots" "basses" "[I") ∈ wA := kA (i := 66) (by decide +kernel) rfl
theorem kn_67 : (Jvm.Cond.fieldLinkNest "ChordGrammars$Symbols" (37 : Nat) "ChordGrammars$Slots" "basses" "[I" "ChordGrammars") ∈ wN := kN (i := 67) (by decide +kernel) rfl
theorem kn_68 : (Jvm.Cond.fieldLinkNest "ChordGrammars" (109 : Nat) "ChordGrammars$Slots" "basses" "[I" "ChordGrammars") ∈ wN := kN (i := 68) (by decide +kernel) rfl
theorem k_69 : (Jvm.Cond.fieldLink "ChordGrammars$Slots" (18 : Nat) "ChordGrammars$Slots" "pitches" "[I") ∈ wA := kA (i := 69) (by decide +kernel) rfl
theorem kn_70 : (Jvm.Cond.fieldLinkNest "ChordGrammars$Chart" (53 : Nat) "ChordGrammars$Slots" "pitches" "[I" "ChordGrammars") ∈ wN := kN (i := 70) (by decide +kernel) rfl
theorem k_71 : (Jvm.Cond.fieldLink "ChordGrammars$Slots" (21 : Nat) "ChordGrammars$Slots" "count" "I") ∈ wA := kA (i := 71) (by decide +kernel) rfl
theorem kn_72 : (Jvm.Cond.fieldLinkNest "ChordGrammars$Symbols" (18 : Nat) "ChordGrammars$Slots" "count" "I" "ChordGrammars") ∈ wN := kN (i := 72) (by decide +kernel) rfl
theorem kn_73 : (Jvm.Cond.fieldLinkNest "ChordGrammars$Chart" (48 : Nat) "ChordGrammars$Slots" "count" "I" "ChordGrammars") ∈ wN := kN (i := 73) (by decide +kernel) rfl
theorem kn_74 : (Jvm.Cond.fieldLinkNest "ChordGrammars" (98 : Nat) "ChordGrammars$Slots" "count" "I" "ChordGrammars") ∈ wN := kN (i := 74) (by decide +kernel) rfl
theorem k_83 : (Jvm.Cond.superclass "ChordGrammars$Slots" "java/lang/Object") ∈ wA := kA (i := 83) (by decide +kernel) rfl
theorem k_84 : (Jvm.Cond.classLink "ChordGrammars" (30 : Nat) "ChordGrammars$Draft") ∈ wA := kA (i := 84) (by decide +kernel) rfl
theorem k_85 : (Jvm.Cond.instantiable "ChordGrammars$Draft" (2 : Nat)) ∈ wA := kA (i := 85) (by decide +kernel) rfl
theorem kn_86 : (Jvm.Cond.methodLinkNest "ChordGrammars" (32 : Nat) ({ cls := "ChordGrammars$Draft", name := "<init>", desc := "()V" } : Jvm.MethodName) "ChordGrammars") ∈ wN := kN (i := 86) (by decide +kernel) rfl
theorem k_87 : (Jvm.Cond.instanceMethod ({ cls := "ChordGrammars$Draft", name := "<init>", desc := "()V" } : Jvm.MethodName)) ∈ wA := kA (i := 87) (by decide +kernel) rfl
theorem k_88 : (Jvm.Cond.code ({ cls := "ChordGrammars$Draft", name := "<init>", desc := "()V" } : Jvm.MethodName) prog_3_method_1_code (1 : Nat) (Option.none : Option Jvm.ClassFile.FieldType)) ∈ wA := kA (i := 88) (by decide +kernel) rfl
theorem k_89 : (Jvm.Cond.methodLink "ChordGrammars$Draft" (3 : Nat) ({ cls := "java/lang/Object", name := "<init>", desc := "()V" } : Jvm.MethodName)) ∈ wA := kA (i := 89) (by decide +kernel) rfl
theorem k_90 : (Jvm.Cond.fieldLink "ChordGrammars$Draft" (9 : Nat) "ChordGrammars$Draft" "octets" "[B") ∈ wA := kA (i := 90) (by decide +kernel) rfl
theorem k_91 : (Jvm.Cond.fieldLink "ChordGrammars$Draft" (15 : Nat) "ChordGrammars$Draft" "size" "I") ∈ wA := kA (i := 91) (by decide +kernel) rfl
theorem kn_92 : (Jvm.Cond.fieldLinkNest "ChordGrammars" (80 : Nat) "ChordGrammars$Draft" "size" "I" "ChordGrammars") ∈ wN := kN (i := 92) (by decide +kernel) rfl
theorem kn_93 : (Jvm.Cond.fieldLinkNest "ChordGrammars$Reader" (88 : Nat) "ChordGrammars$Draft" "size" "I" "ChordGrammars") ∈ wN := kN (i := 93) (by decide +kernel) rfl
theorem k_98 : (Jvm.Cond.superclass "ChordGrammars$Draft" "java/lang/Object") ∈ wA := kA (i := 98) (by decide +kernel) rfl
theorem k_99 : (Jvm.Cond.arrayClass Jvm.ClassFile.FieldType.byte) ∈ wA := kA (i := 99) (by decide +kernel) rfl
theorem k_100 : (Jvm.Cond.classLink "ChordGrammars" (37 : Nat) "ChordGrammars$Grammar") ∈ wA := kA (i := 100) (by decide +kernel) rfl
theorem k_101 : (Jvm.Cond.instantiable "ChordGrammars$Grammar" (6 : Nat)) ∈ wA := kA (i := 101) (by decide +kernel) rfl
theorem kn_102 : (Jvm.Cond.methodLinkNest "ChordGrammars" (39 : Nat) ({ cls := "ChordGrammars$Grammar", name := "<init>", desc := "()V" } : Jvm.MethodName) "ChordGrammars") ∈ wN := kN (i := 102) (by decide +kernel) rfl
theorem k_103 : (Jvm.Cond.instanceMethod ({ cls := "ChordGrammars$Grammar", name := "<init>", desc := "()V" } : Jvm.MethodName)) ∈ wA := kA (i := 103) (by decide +kernel) rfl
theorem k_104 : (Jvm.Cond.code ({ cls := "ChordGrammars$Grammar", name := "<init>", desc := "()V" } : Jvm.MethodName) prog_4_method_1_code (1 : Nat) (Option.none : Option Jvm.ClassFile.FieldType)) ∈ wA := kA (i := 104) (by decide +kernel) rfl
theorem k_105 : (Jvm.Cond.methodLink "ChordGrammars$Grammar" (3 : Nat) ({ cls := "java/lang/Object", name := "<init>", desc := "()V" } : Jvm.MethodName)) ∈ wA := kA (i := 105) (by decide +kernel) rfl
theorem k_106 : (Jvm.Cond.fieldLink "ChordGrammars$Grammar" (9 : Nat) "ChordGrammars$Grammar" "lefts" "[I") ∈ wA := kA (i := 106) (by decide +kernel) rfl
theorem kn_107 : (Jvm.Cond.fieldLinkNest "ChordGrammars$Tree" (58 : Nat) "ChordGrammars$Grammar" "lefts" "[I" "ChordGrammars") ∈ wN := kN (i := 107) (by decide +kernel) rfl
theorem kn_108 : (Jvm.Cond.fieldLinkNest "ChordGrammars$Reader" (64 : Nat) "ChordGrammars$Grammar" "lefts" "[I" "ChordGrammars") ∈ wN := kN (i := 108) (by decide +kernel) rfl
theorem kn_109 : (Jvm.Cond.fieldLinkNest "ChordGrammars$Chart" (89 : Nat) "ChordGrammars$Grammar" "lefts" "[I" "ChordGrammars") ∈ wN := kN (i := 109) (by decide +kernel) rfl
theorem k_110 : (Jvm.Cond.fieldLink "ChordGrammars$Grammar" (15 : Nat) "ChordGrammars$Grammar" "ones" "[I") ∈ wA := kA (i := 110) (by decide +kernel) rfl
theorem kn_111 : (Jvm.Cond.fieldLinkNest "ChordGrammars$Reader" (67 : Nat) "ChordGrammars$Grammar" "ones" "[I" "ChordGrammars") ∈ wN := kN (i := 111) (by decide +kernel) rfl
theorem kn_112 : (Jvm.Cond.fieldLinkNest "ChordGrammars$Chart" (92 : Nat) "ChordGrammars$Grammar" "ones" "[I" "ChordGrammars") ∈ wN := kN (i := 112) (by decide +kernel) rfl
theorem kn_113 : (Jvm.Cond.fieldLinkNest "ChordGrammars$Tree" (102 : Nat) "ChordGrammars$Grammar" "ones" "[I" "ChordGrammars") ∈ wN := kN (i := 113) (by decide +kernel) rfl
theorem k_114 : (Jvm.Cond.fieldLink "ChordGrammars$Grammar" (18 : Nat) "ChordGrammars$Grammar" "twos" "[I") ∈ wA := kA (i := 114) (by decide +kernel) rfl
theorem kn_115 : (Jvm.Cond.fieldLinkNest "ChordGrammars$Chart" (78 : Nat) "ChordGrammars$Grammar" "twos" "[I" "ChordGrammars") ∈ wN := kN (i := 115) (by decide +kernel) rfl
theorem kn_116 : (Jvm.Cond.fieldLinkNest "ChordGrammars$Reader" (70 : Nat) "ChordGrammars$Grammar" "twos" "[I" "ChordGrammars") ∈ wN := kN (i := 116) (by decide +kernel) rfl
theorem kn_117 : (Jvm.Cond.fieldLinkNest "ChordGrammars$Tree" (99 : Nat) "ChordGrammars$Grammar" "twos" "[I" "ChordGrammars") ∈ wN := kN (i := 117) (by decide +kernel) rfl
theorem k_118 : (Jvm.Cond.fieldLink "ChordGrammars$Grammar" (21 : Nat) "ChordGrammars$Grammar" "costs" "[I") ∈ wA := kA (i := 118) (by decide +kernel) rfl
theorem kn_119 : (Jvm.Cond.fieldLinkNest "ChordGrammars$Reader" (73 : Nat) "ChordGrammars$Grammar" "costs" "[I" "ChordGrammars") ∈ wN := kN (i := 119) (by decide +kernel) rfl
theorem kn_120 : (Jvm.Cond.fieldLinkNest "ChordGrammars$Chart" (102 : Nat) "ChordGrammars$Grammar" "costs" "[I" "ChordGrammars") ∈ wN := kN (i := 120) (by decide +kernel) rfl
theorem k_121 : (Jvm.Cond.fieldLink "ChordGrammars$Grammar" (24 : Nat) "ChordGrammars$Grammar" "order" "[I") ∈ wA := kA (i := 121) (by decide +kernel) rfl
theorem kn_122 : (Jvm.Cond.fieldLinkNest "ChordGrammars$Chart" (75 : Nat) "ChordGrammars$Grammar" "order" "[I" "ChordGrammars") ∈ wN := kN (i := 122) (by decide +kernel) rfl
theorem kn_123 : (Jvm.Cond.fieldLinkNest "ChordGrammars$Reader" (110 : Nat) "ChordGrammars$Grammar" "order" "[I" "ChordGrammars") ∈ wN := kN (i := 123) (by decide +kernel) rfl
theorem k_124 : (Jvm.Cond.fieldLink "ChordGrammars$Grammar" (27 : Nat) "ChordGrammars$Grammar" "rules" "I") ∈ wA := kA (i := 124) (by decide +kernel) rfl
theorem kn_125 : (Jvm.Cond.fieldLinkNest "ChordGrammars$Reader" (29 : Nat) "ChordGrammars$Grammar" "rules" "I" "ChordGrammars") ∈ wN := kN (i := 125) (by decide +kernel) rfl
theorem kn_126 : (Jvm.Cond.fieldLinkNest "ChordGrammars$Chart" (72 : Nat) "ChordGrammars$Grammar" "rules" "I" "ChordGrammars") ∈ wN := kN (i := 126) (by decide +kernel) rfl
theorem kn_127 : (Jvm.Cond.fieldLinkNest "ChordGrammars$Tree" (94 : Nat) "ChordGrammars$Grammar" "rules" "I" "ChordGrammars") ∈ wN := kN (i := 127) (by decide +kernel) rfl
theorem kn_128 : (Jvm.Cond.fieldLinkNest "ChordGrammars" (91 : Nat) "ChordGrammars$Grammar" "rules" "I" "ChordGrammars") ∈ wN := kN (i := 128) (by decide +kernel) rfl
theorem k_141 : (Jvm.Cond.superclass "ChordGrammars$Grammar" "java/lang/Object") ∈ wA := kA (i := 141) (by decide +kernel) rfl
theorem k_142 : (Jvm.Cond.classLink "ChordGrammars" (44 : Nat) "ChordGrammars$Reader") ∈ wA := kA (i := 142) (by decide +kernel) rfl
theorem k_143 : (Jvm.Cond.instantiable "ChordGrammars$Reader" (4 : Nat)) ∈ wA := kA (i := 143) (by decide +kernel) rfl
theorem kn_144 : (Jvm.Cond.methodLinkNest "ChordGrammars" (46 : Nat) ({ cls := "ChordGrammars$Reader", name := "<init>", desc := "()V" } : Jvm.MethodName) "ChordGrammars") ∈ wN := kN (i := 144) (by decide +kernel) rfl
theorem k_145 : (Jvm.Cond.instanceMethod ({ cls := "ChordGrammars$Reader", name := "<init>", desc := "()V" } : Jvm.MethodName)) ∈ wA := kA (i := 145) (by decide +kernel) rfl
theorem k_146 : (Jvm.Cond.code ({ cls := "ChordGrammars$Reader", name := "<init>", desc := "()V" } : Jvm.MethodName) prog_6_method_1_code (1 : Nat) (Option.none : Option Jvm.ClassFile.FieldType)) ∈ wA := kA (i := 146) (by decide +kernel) rfl
theorem k_147 : (Jvm.Cond.methodLink "ChordGrammars$Reader" (3 : Nat) ({ cls := "java/lang/Object", name := "<init>", desc := "()V" } : Jvm.MethodName)) ∈ wA := kA (i := 147) (by decide +kernel) rfl
theorem k_148 : (Jvm.Cond.classLink "ChordGrammars$Reader" (9 : Nat) "ChordGrammars$Grammar") ∈ wA := kA (i := 148) (by decide +kernel) rfl
theorem kn_149 : (Jvm.Cond.methodLinkNest "ChordGrammars$Reader" (11 : Nat) ({ cls := "ChordGrammars$Grammar", name := "<init>", desc := "()V" } : Jvm.MethodName) "ChordGrammars") ∈ wN := kN (i := 149) (by decide +kernel) rfl
theorem k_150 : (Jvm.Cond.fieldLink "ChordGrammars$Reader" (12 : Nat) "ChordGrammars$Reader" "found" "LChordGrammars$Grammar;") ∈ wA := kA (i := 150) (by decide +kernel) rfl
theorem kn_151 : (Jvm.Cond.fieldLinkNest "ChordGrammars" (84 : Nat) "ChordGrammars$Reader" "found" "LChordGrammars$Grammar;" "ChordGrammars") ∈ wN := kN (i := 151) (by decide +kernel) rfl
theorem k_152 : (Jvm.Cond.fieldLink "ChordGrammars$Reader" (18 : Nat) "ChordGrammars$Reader" "leftPlaces" "[I") ∈ wA := kA (i := 152) (by decide +kernel) rfl
theorem k_153 : (Jvm.Cond.fieldLink "ChordGrammars$Reader" (22 : Nat) "ChordGrammars$Reader" "reach" "[I") ∈ wA := kA (i := 153) (by decide +kernel) rfl
theorem k_154 : (Jvm.Cond.fieldLink "ChordGrammars$Reader" (25 : Nat) "ChordGrammars$Reader" "place" "I") ∈ wA := kA (i := 154) (by decide +kernel) rfl
theorem k_163 : (Jvm.Cond.superclass "ChordGrammars$Reader" "java/lang/Object") ∈ wA := kA (i := 163) (by decide +kernel) rfl
theorem k_164 : (Jvm.Cond.classLink "ChordGrammars" (51 : Nat) "ChordGrammars$Chart") ∈ wA := kA (i := 164) (by decide +kernel) rfl
theorem k_165 : (Jvm.Cond.instantiable "ChordGrammars$Chart" (7 : Nat)) ∈ wA := kA (i := 165) (by decide +kernel) rfl
theorem kn_166 : (Jvm.Cond.methodLinkNest "ChordGrammars" (53 : Nat) ({ cls := "ChordGrammars$Chart", name := "<init>", desc := "()V" } : Jvm.MethodName) "ChordGrammars") ∈ wN := kN (i := 166) (by decide +kernel) rfl
theorem k_167 : (Jvm.Cond.instanceMethod ({ cls := "ChordGrammars$Chart", name := "<init>", desc := "()V" } : Jvm.MethodName)) ∈ wA := kA (i := 167) (by decide +kernel) rfl
theorem k_168 : (Jvm.Cond.code ({ cls := "ChordGrammars$Chart", name := "<init>", desc := "()V" } : Jvm.MethodName) prog_2_method_1_code (1 : Nat) (Option.none : Option Jvm.ClassFile.FieldType)) ∈ wA := kA (i := 168) (by decide +kernel) rfl
theorem k_169 : (Jvm.Cond.methodLink "ChordGrammars$Chart" (3 : Nat) ({ cls := "java/lang/Object", name := "<init>", desc := "()V" } : Jvm.MethodName)) ∈ wA := kA (i := 169) (by decide +kernel) rfl
theorem k_170 : (Jvm.Cond.classLink "ChordGrammars$Chart" (9 : Nat) "ChordGrammars$Grammar") ∈ wA := kA (i := 170) (by decide +kernel) rfl
theorem kn_171 : (Jvm.Cond.methodLinkNest "ChordGrammars$Chart" (11 : Nat) ({ cls := "ChordGrammars$Grammar", name := "<init>", desc := "()V" } : Jvm.MethodName) "ChordGrammars") ∈ wN := kN (i := 171) (by decide +kernel) rfl
theorem k_172 : (Jvm.Cond.classLink "ChordGrammars$Chart" (18 : Nat) "ChordGrammars$Symbols") ∈ wA := kA (i := 172) (by decide +kernel) rfl
theorem k_173 : (Jvm.Cond.instantiable "ChordGrammars$Symbols" (2 : Nat)) ∈ wA := kA (i := 173) (by decide +kernel) rfl
theorem kn_174 : (Jvm.Cond.methodLinkNest "ChordGrammars$Chart" (20 : Nat) ({ cls := "ChordGrammars$Symbols", name := "<init>", desc := "()V" } : Jvm.MethodName) "ChordGrammars") ∈ wN := kN (i := 174) (by decide +kernel) rfl
theorem k_175 : (Jvm.Cond.instanceMethod ({ cls := "ChordGrammars$Symbols", name := "<init>", desc := "()V" } : Jvm.MethodName)) ∈ wA := kA (i := 175) (by decide +kernel) rfl
theorem k_176 : (Jvm.Cond.code ({ cls := "ChordGrammars$Symbols", name := "<init>", desc := "()V" } : Jvm.MethodName) prog_8_method_1_code (1 : Nat) (Option.none : Option Jvm.ClassFile.FieldType)) ∈ wA := kA (i := 176) (by decide +kernel) rfl
theorem k_177 : (Jvm.Cond.methodLink "ChordGrammars$Symbols" (3 : Nat) ({ cls := "java/lang/Object", name := "<init>", desc := "()V" } : Jvm.MethodName)) ∈ wA := kA (i := 177) (by decide +kernel) rfl
theorem k_178 : (Jvm.Cond.fieldLink "ChordGrammars$Symbols" (9 : Nat) "ChordGrammars$Symbols" "chords" "[I") ∈ wA := kA (i := 178) (by decide +kernel) rfl
theorem kn_179 : (Jvm.Cond.fieldLinkNest "ChordGrammars$Chart" (141 : Nat) "ChordGrammars$Symbols" "chords" "[I" "ChordGrammars") ∈ wN := kN (i := 179) (by decide +kernel) rfl
theorem k_180 : (Jvm.Cond.fieldLink "ChordGrammars$Symbols" (15 : Nat) "ChordGrammars$Symbols" "prices" "[I") ∈ wA := kA (i := 180) (by decide +kernel) rfl
theorem kn_181 : (Jvm.Cond.fieldLinkNest "ChordGrammars$Chart" (138 : Nat) "ChordGrammars$Symbols" "prices" "[I" "ChordGrammars") ∈ wN := kN (i := 181) (by decide +kernel) rfl
theorem k_186 : (Jvm.Cond.superclass "ChordGrammars$Symbols" "java/lang/Object") ∈ wA := kA (i := 186) (by decide +kernel) rfl
theorem k_187 : (Jvm.Cond.constant "ChordGrammars$Chart" (36 : Nat) (234000 : Int32)) ∈ wA := kA (i := 187) (by decide +kernel) rfl
theorem k_188 : (Jvm.Cond.fieldLink "ChordGrammars$Chart" (12 : Nat) "ChordGrammars$Chart" "grammar" "LChordGrammars$Grammar;") ∈ wA := kA (i := 188) (by decide +kernel) rfl
theorem kn_189 : (Jvm.Cond.fieldLinkNest "ChordGrammars$Tree" (52 : Nat) "ChordGrammars$Chart" "grammar" "LChordGrammars$Grammar;" "ChordGrammars") ∈ wN := kN (i := 189) (by decide +kernel) rfl
theorem k_190 : (Jvm.Cond.fieldLink "ChordGrammars$Chart" (21 : Nat) "ChordGrammars$Chart" "symbols" "LChordGrammars$Symbols;") ∈ wA := kA (i := 190) (by decide +kernel) rfl
theorem k_191 : (Jvm.Cond.fieldLink "ChordGrammars$Chart" (25 : Nat) "ChordGrammars$Chart" "pitches" "[I") ∈ wA := kA (i := 191) (by decide +kernel) rfl
theorem k_192 : (Jvm.Cond.fieldLink "ChordGrammars$Chart" (29 : Nat) "ChordGrammars$Chart" "counts" "[J") ∈ wA := kA (i := 192) (by decide +kernel) rfl
theorem k_193 : (Jvm.Cond.fieldLink "ChordGrammars$Chart" (33 : Nat) "ChordGrammars$Chart" "sizes" "[I") ∈ wA := kA (i := 193) (by decide +kernel) rfl
theorem k_194 : (Jvm.Cond.fieldLink "ChordGrammars$Chart" (37 : Nat) "ChordGrammars$Chart" "least" "[J") ∈ wA := kA (i := 194) (by decide +kernel) rfl
theorem k_195 : (Jvm.Cond.fieldLink "ChordGrammars$Chart" (40 : Nat) "ChordGrammars$Chart" "slots" "I") ∈ wA := kA (i := 195) (by decide +kernel) rfl
theorem kn_196 : (Jvm.Cond.fieldLinkNest "ChordGrammars$Tree" (63 : Nat) "ChordGrammars$Chart" "slots" "I" "ChordGrammars") ∈ wN := kN (i := 196) (by decide +kernel) rfl
theorem kn_197 : (Jvm.Cond.fieldLinkNest "ChordGrammars" (164 : Nat) "ChordGrammars$Chart" "slots" "I" "ChordGrammars") ∈ wN := kN (i := 197) (by decide +kernel) rfl
theorem k_212 : (Jvm.Cond.superclass "ChordGrammars$Chart" "java/lang/Object") ∈ wA := kA (i := 212) (by decide +kernel) rfl
theorem k_213 : (Jvm.Cond.arrayClass Jvm.ClassFile.FieldType.long) ∈ wA := kA (i := 213) (by decide +kernel) rfl
theorem k_214 : (Jvm.Cond.classLink "ChordGrammars" (58 : Nat) "ChordGrammars$Tree") ∈ wA := kA (i := 214) (by decide +kernel) rfl
theorem k_215 : (Jvm.Cond.instantiable "ChordGrammars$Tree" (13 : Nat)) ∈ wA := kA (i := 215) (by decide +kernel) rfl
theorem kn_216 : (Jvm.Cond.methodLinkNest "ChordGrammars" (60 : Nat) ({ cls := "ChordGrammars$Tree", name := "<init>", desc := "()V" } : Jvm.MethodName) "ChordGrammars") ∈ wN := kN (i := 216) (by decide +kernel) rfl
theorem k_217 : (Jvm.Cond.instanceMethod ({ cls := "ChordGrammars$Tree", name := "<init>", desc := "()V" } : Jvm.MethodName)) ∈ wA := kA (i := 217) (by decide +kernel) rfl
theorem k_218 : (Jvm.Cond.code ({ cls := "ChordGrammars$Tree", name := "<init>", desc := "()V" } : Jvm.MethodName) prog_10_method_1_code (1 : Nat) (Option.none : Option Jvm.ClassFile.FieldType)) ∈ wA := kA (i := 218) (by decide +kernel) rfl
theorem k_219 : (Jvm.Cond.methodLink "ChordGrammars$Tree" (3 : Nat) ({ cls := "java/lang/Object", name := "<init>", desc := "()V" } : Jvm.MethodName)) ∈ wA := kA (i := 219) (by decide +kernel) rfl
theorem k_220 : (Jvm.Cond.fieldLink "ChordGrammars$Tree" (9 : Nat) "ChordGrammars$Tree" "reading" "I") ∈ wA := kA (i := 220) (by decide +kernel) rfl
theorem kn_221 : (Jvm.Cond.fieldLinkNest "ChordGrammars" (124 : Nat) "ChordGrammars$Tree" "reading" "I" "ChordGrammars") ∈ wN := kN (i := 221) (by decide +kernel) rfl
theorem k_222 : (Jvm.Cond.fieldLink "ChordGrammars$Tree" (15 : Nat) "ChordGrammars$Tree" "count" "I") ∈ wA := kA (i := 222) (by decide +kernel) rfl
theorem kn_223 : (Jvm.Cond.fieldLinkNest "ChordGrammars" (146 : Nat) "ChordGrammars$Tree" "count" "I" "ChordGrammars") ∈ wN := kN (i := 223) (by decide +kernel) rfl
theorem k_224 : (Jvm.Cond.fieldLink "ChordGrammars$Tree" (18 : Nat) "ChordGrammars$Tree" "rules" "[I") ∈ wA := kA (i := 224) (by decide +kernel) rfl
theorem kn_225 : (Jvm.Cond.fieldLinkNest "ChordGrammars" (147 : Nat) "ChordGrammars$Tree" "rules" "[I" "ChordGrammars") ∈ wN := kN (i := 225) (by decide +kernel) rfl
theorem k_226 : (Jvm.Cond.fieldLink "ChordGrammars$Tree" (22 : Nat) "ChordGrammars$Tree" "firsts" "[I") ∈ wA := kA (i := 226) (by decide +kernel) rfl
theorem kn_227 : (Jvm.Cond.fieldLinkNest "ChordGrammars" (149 : Nat) "ChordGrammars$Tree" "firsts" "[I" "ChordGrammars") ∈ wN := kN (i := 227) (by decide +kernel) rfl
theorem k_228 : (Jvm.Cond.fieldLink "ChordGrammars$Tree" (25 : Nat) "ChordGrammars$Tree" "lasts" "[I") ∈ wA := kA (i := 228) (by decide +kernel) rfl
theorem kn_229 : (Jvm.Cond.fieldLinkNest "ChordGrammars" (152 : Nat) "ChordGrammars$Tree" "lasts" "[I" "ChordGrammars") ∈ wN := kN (i := 229) (by decide +kernel) rfl
theorem k_230 : (Jvm.Cond.fieldLink "ChordGrammars$Tree" (28 : Nat) "ChordGrammars$Tree" "chords" "[I") ∈ wA := kA (i := 230) (by decide +kernel) rfl
theorem kn_231 : (Jvm.Cond.fieldLinkNest "ChordGrammars" (155 : Nat) "ChordGrammars$Tree" "chords" "[I" "ChordGrammars") ∈ wN := kN (i := 231) (by decide +kernel) rfl
theorem k_232 : (Jvm.Cond.fieldLink "ChordGrammars$Tree" (31 : Nat) "ChordGrammars$Tree" "slotChords" "[I") ∈ wA := kA (i := 232) (by decide +kernel) rfl
theorem kn_233 : (Jvm.Cond.fieldLinkNest "ChordGrammars" (161 : Nat) "ChordGrammars$Tree" "slotChords" "[I" "ChordGrammars") ∈ wN := kN (i := 233) (by decide +kernel) rfl
theorem k_234 : (Jvm.Cond.fieldLink "ChordGrammars$Tree" (34 : Nat) "ChordGrammars$Tree" "slotDegrees" "[I") ∈ wA := kA (i := 234) (by decide +kernel) rfl
theorem k_235 : (Jvm.Cond.fieldLink "ChordGrammars$Tree" (37 : Nat) "ChordGrammars$Tree" "waitingItems" "[I") ∈ wA := kA (i := 235) (by decide +kernel) rfl
theorem k_236 : (Jvm.Cond.fieldLink "ChordGrammars$Tree" (40 : Nat) "ChordGrammars$Tree" "waitingFirsts" "[I") ∈ wA := kA (i := 236) (by decide +kernel) rfl
theorem k_237 : (Jvm.Cond.fieldLink "ChordGrammars$Tree" (43 : Nat) "ChordGrammars$Tree" "waitingLasts" "[I") ∈ wA := kA (i := 237) (by decide +kernel) rfl
theorem k_238 : (Jvm.Cond.fieldLink "ChordGrammars$Tree" (46 : Nat) "ChordGrammars$Tree" "waitingRanks" "[I") ∈ wA := kA (i := 238) (by decide +kernel) rfl
theorem k_239 : (Jvm.Cond.fieldLink "ChordGrammars$Tree" (49 : Nat) "ChordGrammars$Tree" "waiting" "I") ∈ wA := kA (i := 239) (by decide +kernel) rfl
theorem k_266 : (Jvm.Cond.superclass "ChordGrammars$Tree" "java/lang/Object") ∈ wA := kA (i := 266) (by decide +kernel) rfl
theorem k_267 : (Jvm.Cond.fieldLink "ChordGrammars" (12 : Nat) "ChordGrammars" "key" "LChordGrammars$Key;") ∈ wA := kA (i := 267) (by decide +kernel) rfl
theorem k_268 : (Jvm.Cond.fieldLink "ChordGrammars" (19 : Nat) "ChordGrammars" "tariff" "LChordGrammars$Tariff;") ∈ wA := kA (i := 268) (by decide +kernel) rfl
theorem k_269 : (Jvm.Cond.fieldLink "ChordGrammars" (26 : Nat) "ChordGrammars" "slots" "LChordGrammars$Slots;") ∈ wA := kA (i := 269) (by decide +kernel) rfl
theorem k_270 : (Jvm.Cond.fieldLink "ChordGrammars" (33 : Nat) "ChordGrammars" "draft" "LChordGrammars$Draft;") ∈ wA := kA (i := 270) (by decide +kernel) rfl
theorem k_271 : (Jvm.Cond.fieldLink "ChordGrammars" (40 : Nat) "ChordGrammars" "grammar" "LChordGrammars$Grammar;") ∈ wA := kA (i := 271) (by decide +kernel) rfl
theorem k_272 : (Jvm.Cond.fieldLink "ChordGrammars" (47 : Nat) "ChordGrammars" "reader" "LChordGrammars$Reader;") ∈ wA := kA (i := 272) (by decide +kernel) rfl
theorem k_273 : (Jvm.Cond.fieldLink "ChordGrammars" (54 : Nat) "ChordGrammars" "chart" "LChordGrammars$Chart;") ∈ wA := kA (i := 273) (by decide +kernel) rfl
theorem k_274 : (Jvm.Cond.fieldLink "ChordGrammars" (61 : Nat) "ChordGrammars" "tree" "LChordGrammars$Tree;") ∈ wA := kA (i := 274) (by decide +kernel) rfl
theorem k_291 : (Jvm.Cond.superclass "ChordGrammars" "java/lang/Object") ∈ wA := kA (i := 291) (by decide +kernel) rfl
theorem k_292 : (Jvm.Cond.methodLink "ChordGrammarsLaw" (19 : Nat) ({ cls := "ChordGrammars", name := "key", desc := "(IZ)Z" } : Jvm.MethodName)) ∈ wA := kA (i := 292) (by decide +kernel) rfl
theorem k_293 : (Jvm.Cond.instanceMethod ({ cls := "ChordGrammars", name := "key", desc := "(IZ)Z" } : Jvm.MethodName)) ∈ wA := kA (i := 293) (by decide +kernel) rfl
theorem k_294 : (Jvm.Cond.selects "ChordGrammars" ({ cls := "ChordGrammars", name := "key", desc := "(IZ)Z" } : Jvm.MethodName) ({ cls := "ChordGrammars", name := "key", desc := "(IZ)Z" } : Jvm.MethodName)) ∈ wA := kA (i := 294) (by decide +kernel) rfl
theorem k_295 : (Jvm.Cond.code ({ cls := "ChordGrammars", name := "key", desc := "(IZ)Z" } : Jvm.MethodName) prog_1_method_2_code (3 : Nat) (Option.some Jvm.ClassFile.FieldType.boolean)) ∈ wA := kA (i := 295) (by decide +kernel) rfl
theorem kn_296 : (Jvm.Cond.methodLinkNest "ChordGrammars" (65 : Nat) ({ cls := "ChordGrammars$Key", name := "change", desc := "(IZ)Z" } : Jvm.MethodName) "ChordGrammars") ∈ wN := kN (i := 296) (by decide +kernel) rfl
theorem k_298 : (Jvm.Cond.instanceMethod ({ cls := "ChordGrammars$Key", name := "change", desc := "(IZ)Z" } : Jvm.MethodName)) ∈ wA := kA (i := 298) (by decide +kernel) rfl
theorem k_299 : (Jvm.Cond.code ({ cls := "ChordGrammars$Key", name := "change", desc := "(IZ)Z" } : Jvm.MethodName) prog_5_method_2_code (3 : Nat) (Option.some Jvm.ClassFile.FieldType.boolean)) ∈ wA := kA (i := 299) (by decide +kernel) rfl
theorem k_300 : (Jvm.Cond.methodLink "ChordGrammarsLaw" (24 : Nat) ({ cls := "ChordGrammars", name := "cost", desc := "(II)Z" } : Jvm.MethodName)) ∈ wA := kA (i := 300) (by decide +kernel) rfl
theorem k_301 : (Jvm.Cond.instanceMethod ({ cls := "ChordGrammars", name := "cost", desc := "(II)Z" } : Jvm.MethodName)) ∈ wA := kA (i := 301) (by decide +kernel) rfl
theorem k_302 : (Jvm.Cond.selects "ChordGrammars" ({ cls := "ChordGrammars", name := "cost", desc := "(II)Z" } : Jvm.MethodName) ({ cls := "ChordGrammars", name := "cost", desc := "(II)Z" } : Jvm.MethodName)) ∈ wA := kA (i := 302) (by decide +kernel) rfl
theorem k_303 : (Jvm.Cond.code ({ cls := "ChordGrammars", name := "cost", desc := "(II)Z" } : Jvm.MethodName) prog_1_method_3_code (3 : Nat) (Option.some Jvm.ClassFile.FieldType.boolean)) ∈ wA := kA (i := 303) (by decide +kernel) rfl
theorem kn_304 : (Jvm.Cond.methodLinkNest "ChordGrammars" (69 : Nat) ({ cls := "ChordGrammars$Tariff", name := "change", desc := "(II)Z" } : Jvm.MethodName) "ChordGrammars") ∈ wN := kN (i := 304) (by decide +kernel) rfl
theorem k_306 : (Jvm.Cond.instanceMethod ({ cls := "ChordGrammars$Tariff", name := "change", desc := "(II)Z" } : Jvm.MethodName)) ∈ wA := kA (i := 306) (by decide +kernel) rfl
theorem k_307 : (Jvm.Cond.code ({ cls := "ChordGrammars$Tariff", name := "change", desc := "(II)Z" } : Jvm.MethodName) prog_9_method_2_code (3 : Nat) (Option.some Jvm.ClassFile.FieldType.boolean)) ∈ wA := kA (i := 307) (by decide +kernel) rfl
theorem k_308 : (Jvm.Cond.methodLink "ChordGrammarsLaw" (31 : Nat) ({ cls := "ChordGrammars", name := "draft", desc := "(IJ)I" } : Jvm.MethodName)) ∈ wA := kA (i := 308) (by decide +kernel) rfl
theorem k_309 : (Jvm.Cond.instanceMethod ({ cls := "ChordGrammars", name := "draft", desc := "(IJ)I" } : Jvm.MethodName)) ∈ wA := kA (i := 309) (by decide +kernel) rfl
theorem k_310 : (Jvm.Cond.selects "ChordGrammars" ({ cls := "ChordGrammars", name := "draft", desc := "(IJ)I" } : Jvm.MethodName) ({ cls := "ChordGrammars", name := "draft", desc := "(IJ)I" } : Jvm.MethodName)) ∈ wA := kA (i := 310) (by decide +kernel) rfl
theorem k_311 : (Jvm.Cond.code ({ cls := "ChordGrammars", name := "draft", desc := "(IJ)I" } : Jvm.MethodName) prog_1_method_4_code (4 : Nat) (Option.some Jvm.ClassFile.FieldType.int)) ∈ wA := kA (i := 311) (by decide +kernel) rfl
theorem kn_312 : (Jvm.Cond.methodLinkNest "ChordGrammars" (72 : Nat) ({ cls := "ChordGrammars$Draft", name := "extend", desc := "(IJ)I" } : Jvm.MethodName) "ChordGrammars") ∈ wN := kN (i := 312) (by decide +kernel) rfl
theorem k_314 : (Jvm.Cond.instanceMethod ({ cls := "ChordGrammars$Draft", name := "extend", desc := "(IJ)I" } : Jvm.MethodName)) ∈ wA := kA (i := 314) (by decide +kernel) rfl
theorem k_315 : (Jvm.Cond.code ({ cls := "ChordGrammars$Draft", name := "extend", desc := "(IJ)I" } : Jvm.MethodName) prog_3_method_2_code (5 : Nat) (Option.some Jvm.ClassFile.FieldType.int)) ∈ wA := kA (i := 315) (by decide +kernel) rfl
theorem k_316 : (Jvm.Cond.methodLink "ChordGrammarsLaw" (36 : Nat) ({ cls := "ChordGrammars", name := "grammar", desc := "()I" } : Jvm.MethodName)) ∈ wA := kA (i := 316) (by decide +kernel) rfl
theorem k_317 : (Jvm.Cond.instanceMethod ({ cls := "ChordGrammars", name := "grammar", desc := "()I" } : Jvm.MethodName)) ∈ wA := kA (i := 317) (by decide +kernel) rfl
theorem k_318 : (Jvm.Cond.selects "ChordGrammars" ({ cls := "ChordGrammars", name := "grammar", desc := "()I" } : Jvm.MethodName) ({ cls := "ChordGrammars", name := "grammar", desc := "()I" } : Jvm.MethodName)) ∈ wA := kA (i := 318) (by decide +kernel) rfl
theorem k_319 : (Jvm.Cond.code ({ cls := "ChordGrammars", name := "grammar", desc := "()I" } : Jvm.MethodName) prog_1_method_5_code (2 : Nat) (Option.some Jvm.ClassFile.FieldType.int)) ∈ wA := kA (i := 319) (by decide +kernel) rfl
theorem kn_320 : (Jvm.Cond.methodLinkNest "ChordGrammars" (76 : Nat) ({ cls := "ChordGrammars$Reader", name := "readAll", desc := "(LChordGrammars$Draft;)I" } : Jvm.MethodName) "ChordGrammars") ∈ wN := kN (i := 320) (by decide +kernel) rfl
theorem k_322 : (Jvm.Cond.instanceMethod ({ cls := "ChordGrammars$Reader", name := "readAll", desc := "(LChordGrammars$Draft;)I" } : Jvm.MethodName)) ∈ wA := kA (i := 322) (by decide +kernel) rfl
theorem k_323 : (Jvm.Cond.code ({ cls := "ChordGrammars$Reader", name := "readAll", desc := "(LChordGrammars$Draft;)I" } : Jvm.MethodName) prog_6_method_2_code (3 : Nat) (Option.some Jvm.ClassFile.FieldType.int)) ∈ wA := kA (i := 323) (by decide +kernel) rfl
theorem k_324 : (Jvm.Cond.methodLink "ChordGrammars$Reader" (32 : Nat) ({ cls := "ChordGrammars$Reader", name := "nextOctet", desc := "(LChordGrammars$Draft;)I" } : Jvm.MethodName)) ∈ wA := kA (i := 324) (by decide +kernel) rfl
theorem k_326 : (Jvm.Cond.instanceMethod ({ cls := "ChordGrammars$Reader", name := "nextOctet", desc := "(LChordGrammars$Draft;)I" } : Jvm.MethodName)) ∈ wA := kA (i := 326) (by decide +kernel) rfl
theorem k_327 : (Jvm.Cond.code ({ cls := "ChordGrammars$Reader", name := "nextOctet", desc := "(LChordGrammars$Draft;)I" } : Jvm.MethodName) prog_6_method_7_code (2 : Nat) (Option.some Jvm.ClassFile.FieldType.int)) ∈ wA := kA (i := 327) (by decide +kernel) rfl
theorem kn_328 : (Jvm.Cond.methodLinkNest "ChordGrammars$Reader" (76 : Nat) ({ cls := "ChordGrammars$Draft", name := "octetAt", desc := "(I)I" } : Jvm.MethodName) "ChordGrammars") ∈ wN := kN (i := 328) (by decide +kernel) rfl
theorem k_330 : (Jvm.Cond.instanceMethod ({ cls := "ChordGrammars$Draft", name := "octetAt", desc := "(I)I" } : Jvm.MethodName)) ∈ wA := kA (i := 330) (by decide +kernel) rfl
theorem k_331 : (Jvm.Cond.code ({ cls := "ChordGrammars$Draft", name := "octetAt", desc := "(I)I" } : Jvm.MethodName) prog_3_method_3_code (2 : Nat) (Option.some Jvm.ClassFile.FieldType.int)) ∈ wA := kA (i := 331) (by decide +kernel) rfl
theorem k_332 : (Jvm.Cond.methodLink "ChordGrammars$Reader" (36 : Nat) ({ cls := "ChordGrammars$Reader", name := "readRule", desc := "(LChordGrammars$Draft;)Z" } : Jvm.MethodName)) ∈ wA := kA (i := 332) (by decide +kernel) rfl
theorem k_334 : (Jvm.Cond.instanceMethod ({ cls := "ChordGrammars$Reader", name := "readRule", desc := "(LChordGrammars$Draft;)Z" } : Jvm.MethodName)) ∈ wA := kA (i := 334) (by decide +kernel) rfl
theorem k_335 : (Jvm.Cond.code ({ cls := "ChordGrammars$Reader", name := "readRule", desc := "(LChordGrammars$Draft;)Z" } : Jvm.MethodName) prog_6_method_3_code (8 : Nat) (Option.some Jvm.ClassFile.FieldType.boolean)) ∈ wA := kA (i := 335) (by decide +kernel) rfl
theorem k_336 : (Jvm.Cond.methodLink "ChordGrammars$Reader" (50 : Nat) ({ cls := "ChordGrammars$Reader", name := "isName", desc := "(I)Z" } : Jvm.MethodName)) ∈ wA := kA (i := 336) (by decide +kernel) rfl
theorem k_337 : (Jvm.Cond.static ({ cls := "ChordGrammars$Reader", name := "isName", desc := "(I)Z" } : Jvm.MethodName)) ∈ wA := kA (i := 337) (by decide +kernel) rfl
theorem k_338 : (Jvm.Cond.code ({ cls := "ChordGrammars$Reader", name := "isName", desc := "(I)Z" } : Jvm.MethodName) prog_6_method_8_code (1 : Nat) (Option.some Jvm.ClassFile.FieldType.boolean)) ∈ wA := kA (i := 338) (by decide +kernel) rfl
theorem k_339 : (Jvm.Cond.methodLink "ChordGrammars$Reader" (54 : Nat) ({ cls := "ChordGrammars$Reader", name := "takes", desc := "(LChordGrammars$Draft;I)Z" } : Jvm.MethodName)) ∈ wA := kA (i := 339) (by decide +kernel) rfl
theorem k_341 : (Jvm.Cond.instanceMethod ({ cls := "ChordGrammars$Reader", name := "takes", desc := "(LChordGrammars$Draft;I)Z" } : Jvm.MethodName)) ∈ wA := kA (i := 341) (by decide +kernel) rfl
theorem k_342 : (Jvm.Cond.code ({ cls := "ChordGrammars$Reader", name := "takes", desc := "(LChordGrammars$Draft;I)Z" } : Jvm.MethodName) prog_6_method_6_code (4 : Nat) (Option.some Jvm.ClassFile.FieldType.boolean)) ∈ wA := kA (i := 342) (by decide +kernel) rfl
theorem k_343 : (Jvm.Cond.methodLink "ChordGrammars$Reader" (58 : Nat) ({ cls := "ChordGrammars$Reader", name := "readItem", desc := "(LChordGrammars$Draft;)I" } : Jvm.MethodName)) ∈ wA := kA (i := 343) (by decide +kernel) rfl
theorem k_345 : (Jvm.Cond.instanceMethod ({ cls := "ChordGrammars$Reader", name := "readItem", desc := "(LChordGrammars$Draft;)I" } : Jvm.MethodName)) ∈ wA := kA (i := 345) (by decide +kernel) rfl
theorem k_346 : (Jvm.Cond.code ({ cls := "ChordGrammars$Reader", name := "readItem", desc := "(LChordGrammars$Draft;)I" } : Jvm.MethodName) prog_6_method_4_code (4 : Nat) (Option.some Jvm.ClassFile.FieldType.int)) ∈ wA := kA (i := 346) (by decide +kernel) rfl
theorem k_347 : (Jvm.Cond.methodLink "ChordGrammars$Reader" (82 : Nat) ({ cls := "ChordGrammars$Reader", name := "kindOf", desc := "(I)I" } : Jvm.MethodName)) ∈ wA := kA (i := 347) (by decide +kernel) rfl
theorem k_348 : (Jvm.Cond.static ({ cls := "ChordGrammars$Reader", name := "kindOf", desc := "(I)I" } : Jvm.MethodName)) ∈ wA := kA (i := 348) (by decide +kernel) rfl
theorem k_349 : (Jvm.Cond.code ({ cls := "ChordGrammars$Reader", name := "kindOf", desc := "(I)I" } : Jvm.MethodName) prog_6_method_10_code (1 : Nat) (Option.some Jvm.ClassFile.FieldType.int)) ∈ wA := kA (i := 349) (by decide +kernel) rfl
theorem k_351 : (Jvm.Cond.methodLink "ChordGrammars$Reader" (93 : Nat) ({ cls := "java/lang/String", name := "indexOf", desc := "(I)I" } : Jvm.MethodName)) ∈ wA := kA (i := 351) (by decide +kernel) rfl
theorem k_352 : (Jvm.Cond.instanceMethod ({ cls := "java/lang/String", name := "indexOf", desc := "(I)I" } : Jvm.MethodName)) ∈ wA := kA (i := 352) (by decide +kernel) rfl
theorem k_353 : (Jvm.Cond.selects "java/lang/String" ({ cls := "java/lang/String", name := "indexOf", desc := "(I)I" } : Jvm.MethodName) ({ cls := "java/lang/String", name := "indexOf", desc := "(I)I" } : Jvm.MethodName)) ∈ wA := kA (i := 353) (by decide +kernel) rfl
theorem k_354 : (Jvm.Cond.code ({ cls := "java/lang/String", name := "indexOf", desc := "(I)I" } : Jvm.MethodName) prog_20_method_79_code (2 : Nat) (Option.some Jvm.ClassFile.FieldType.int)) ∈ wA := kA (i := 354) (by decide +kernel) rfl
theorem k_355 : (Jvm.Cond.methodLink "java/lang/String" (633 : Nat) ({ cls := "java/lang/String", name := "indexOf", desc := "(II)I" } : Jvm.MethodName)) ∈ wA := kA (i := 355) (by decide +kernel) rfl
theorem k_356 : (Jvm.Cond.instanceMethod ({ cls := "java/lang/String", name := "indexOf", desc := "(II)I" } : Jvm.MethodName)) ∈ wA := kA (i := 356) (by decide +kernel) rfl
theorem k_357 : (Jvm.Cond.selects "java/lang/String" ({ cls := "java/lang/String", name := "indexOf", desc := "(II)I" } : Jvm.MethodName) ({ cls := "java/lang/String", name := "indexOf", desc := "(II)I" } : Jvm.MethodName)) ∈ wA := kA (i := 357) (by decide +kernel) rfl
theorem k_358 : (Jvm.Cond.code ({ cls := "java/lang/String", name := "indexOf", desc := "(II)I" } : Jvm.MethodName) prog_20_method_80_code (3 : Nat) (Option.some Jvm.ClassFile.FieldType.int)) ∈ wA := kA (i := 358) (by decide +kernel) rfl
theorem k_359 : (Jvm.Cond.methodLink "java/lang/String" (492 : Nat) ({ cls := "java/lang/String", name := "isLatin1", desc := "()Z" } : Jvm.MethodName)) ∈ wA := kA (i := 359) (by decide +kernel) rfl
theorem k_360 : (Jvm.Cond.instanceMethod ({ cls := "java/lang/String", name := "isLatin1", desc := "()Z" } : Jvm.MethodName)) ∈ wA := kA (i := 360) (by decide +kernel) rfl
theorem k_361 : (Jvm.Cond.selects "java/lang/String" ({ cls := "java/lang/String", name := "isLatin1", desc := "()Z" } : Jvm.MethodName) ({ cls := "java/lang/String", name := "isLatin1", desc := "()Z" } : Jvm.MethodName)) ∈ wA := kA (i := 361) (by decide +kernel) rfl
theorem k_362 : (Jvm.Cond.code ({ cls := "java/lang/String", name := "isLatin1", desc := "()Z" } : Jvm.MethodName) prog_20_method_154_code (1 : Nat) (Option.some Jvm.ClassFile.FieldType.boolean)) ∈ wA := kA (i := 362) (by decide +kernel) rfl
theorem k_363 : (Jvm.Cond.fieldLink "java/lang/String" (38 : Nat) "java/lang/String" "COMPACT_STRINGS" "Z") ∈ wA := kA (i := 363) (by decide +kernel) rfl
theorem k_365 : (Jvm.Cond.methodLink "java/lang/String" (505 : Nat) ({ cls := "java/lang/String", name := "length", desc := "()I" } : Jvm.MethodName)) ∈ wA := kA (i := 365) (by decide +kernel) rfl
theorem k_366 : (Jvm.Cond.instanceMethod ({ cls := "java/lang/String", name := "length", desc := "()I" } : Jvm.MethodName)) ∈ wA := kA (i := 366) (by decide +kernel) rfl
theorem k_367 : (Jvm.Cond.selects "java/lang/String" ({ cls := "java/lang/String", name := "length", desc := "()I" } : Jvm.MethodName) ({ cls := "java/lang/String", name := "length", desc := "()I" } : Jvm.MethodName)) ∈ wA := kA (i := 367) (by decide +kernel) rfl
theorem k_368 : (Jvm.Cond.code ({ cls := "java/lang/String", name := "length", desc := "()I" } : Jvm.MethodName) prog_20_method_54_code (1 : Nat) (Option.some Jvm.ClassFile.FieldType.int)) ∈ wA := kA (i := 368) (by decide +kernel) rfl
theorem k_369 : (Jvm.Cond.methodLink "java/lang/String" (335 : Nat) ({ cls := "java/lang/String", name := "coder", desc := "()B" } : Jvm.MethodName)) ∈ wA := kA (i := 369) (by decide +kernel) rfl
theorem k_370 : (Jvm.Cond.instanceMethod ({ cls := "java/lang/String", name := "coder", desc := "()B" } : Jvm.MethodName)) ∈ wA := kA (i := 370) (by decide +kernel) rfl
theorem k_371 : (Jvm.Cond.selects "java/lang/String" ({ cls := "java/lang/String", name := "coder", desc := "()B" } : Jvm.MethodName) ({ cls := "java/lang/String", name := "coder", desc := "()B" } : Jvm.MethodName)) ∈ wA := kA (i := 371) (by decide +kernel) rfl
theorem k_372 : (Jvm.Cond.code ({ cls := "java/lang/String", name := "coder", desc := "()B" } : Jvm.MethodName) prog_20_method_152_code (1 : Nat) (Option.some Jvm.ClassFile.FieldType.byte)) ∈ wA := kA (i := 372) (by decide +kernel) rfl
theorem k_373 : (Jvm.Cond.methodLink "java/lang/String" (637 : Nat) ({ cls := "java/lang/StringLatin1", name := "indexOf", desc := "([BIII)I" } : Jvm.MethodName)) ∈ wA := kA (i := 373) (by decide +kernel) rfl
theorem k_374 : (Jvm.Cond.static ({ cls := "java/lang/StringLatin1", name := "indexOf", desc := "([BIII)I" } : Jvm.MethodName)) ∈ wA := kA (i := 374) (by decide +kernel) rfl
theorem k_375 : (Jvm.Cond.code ({ cls := "java/lang/StringLatin1", name := "indexOf", desc := "([BIII)I" } : Jvm.MethodName) prog_21_method_22_code (4 : Nat) (Option.some Jvm.ClassFile.FieldType.int)) ∈ wA := kA (i := 375) (by decide +kernel) rfl
theorem k_376 : (Jvm.Cond.methodLink "java/lang/StringLatin1" (88 : Nat) ({ cls := "java/lang/StringLatin1", name := "canEncode", desc := "(I)Z" } : Jvm.MethodName)) ∈ wA := kA (i := 376) (by decide +kernel) rfl
theorem k_377 : (Jvm.Cond.static ({ cls := "java/lang/StringLatin1", name := "canEncode", desc := "(I)Z" } : Jvm.MethodName)) ∈ wA := kA (i := 377) (by decide +kernel) rfl
theorem k_378 : (Jvm.Cond.code ({ cls := "java/lang/StringLatin1", name := "canEncode", desc := "(I)Z" } : Jvm.MethodName) prog_21_method_4_code (1 : Nat) (Option.some Jvm.ClassFile.FieldType.boolean)) ∈ wA := kA (i := 378) (by decide +kernel) rfl
theorem k_379 : (Jvm.Cond.methodLink "java/lang/StringLatin1" (92 : Nat) ({ cls := "java/lang/Math", name := "max", desc := "(II)I" } : Jvm.MethodName)) ∈ wA := kA (i := 379) (by decide +kernel) rfl
theorem k_380 : (Jvm.Cond.static ({ cls := "java/lang/Math", name := "max", desc := "(II)I" } : Jvm.MethodName)) ∈ wA := kA (i := 380) (by decide +kernel) rfl
theorem k_381 : (Jvm.Cond.code ({ cls := "java/lang/Math", name := "max", desc := "(II)I" } : Jvm.MethodName) prog_18_method_65_code (2 : Nat) (Option.some Jvm.ClassFile.FieldType.int)) ∈ wA := kA (i := 381) (by decide +kernel) rfl
theorem k_382 : (Jvm.Cond.methodLink "java/lang/StringLatin1" (38 : Nat) ({ cls := "java/lang/Math", name := "min", desc := "(II)I" } : Jvm.MethodName)) ∈ wA := kA (i := 382) (by decide +kernel) rfl
theorem k_383 : (Jvm.Cond.static ({ cls := "java/lang/Math", name := "min", desc := "(II)I" } : Jvm.MethodName)) ∈ wA := kA (i := 383) (by decide +kernel) rfl
theorem k_384 : (Jvm.Cond.code ({ cls := "java/lang/Math", name := "min", desc := "(II)I" } : Jvm.MethodName) prog_18_method_69_code (2 : Nat) (Option.some Jvm.ClassFile.FieldType.int)) ∈ wA := kA (i := 384) (by decide +kernel) rfl
theorem k_385 : (Jvm.Cond.methodLink "java/lang/StringLatin1" (95 : Nat) ({ cls := "java/lang/StringLatin1", name := "indexOfChar", desc := "([BIII)I" } : Jvm.MethodName)) ∈ wA := kA (i := 385) (by decide +kernel) rfl
theorem k_386 : (Jvm.Cond.static ({ cls := "java/lang/StringLatin1", name := "indexOfChar", desc := "([BIII)I" } : Jvm.MethodName)) ∈ wA := kA (i := 386) (by decide +kernel) rfl
theorem k_387 : (Jvm.Cond.code ({ cls := "java/lang/StringLatin1", name := "indexOfChar", desc := "([BIII)I" } : Jvm.MethodName) prog_21_method_23_code (6 : Nat) (Option.some Jvm.ClassFile.FieldType.int)) ∈ wA := kA (i := 387) (by decide +kernel) rfl
theorem k_388 : (Jvm.Cond.methodLink "java/lang/String" (640 : Nat) ({ cls := "java/lang/StringUTF16", name := "indexOf", desc := "([BIII)I" } : Jvm.MethodName)) ∈ wA := kA (i := 388) (by decide +kernel) rfl
theorem k_389 : (Jvm.Cond.static ({ cls := "java/lang/StringUTF16", name := "indexOf", desc := "([BIII)I" } : Jvm.MethodName)) ∈ wA := kA (i := 389) (by decide +kernel) rfl
theorem k_390 : (Jvm.Cond.code ({ cls := "java/lang/StringUTF16", name := "indexOf", desc := "([BIII)I" } : Jvm.MethodName) prog_22_method_40_code (4 : Nat) (Option.some Jvm.ClassFile.FieldType.int)) ∈ wA := kA (i := 390) (by decide +kernel) rfl
theorem k_391 : (Jvm.Cond.methodLink "java/lang/StringUTF16" (224 : Nat) ({ cls := "java/lang/Math", name := "max", desc := "(II)I" } : Jvm.MethodName)) ∈ wA := kA (i := 391) (by decide +kernel) rfl
theorem k_392 : (Jvm.Cond.methodLink "java/lang/StringUTF16" (183 : Nat) ({ cls := "java/lang/Math", name := "min", desc := "(II)I" } : Jvm.MethodName)) ∈ wA := kA (i := 392) (by decide +kernel) rfl
theorem k_393 : (Jvm.Cond.constant "java/lang/StringUTF16" (227 : Nat) (65536 : Int32)) ∈ wA := kA (i := 393) (by decide +kernel) rfl
theorem k_394 : (Jvm.Cond.methodLink "java/lang/StringUTF16" (228 : Nat) ({ cls := "java/lang/StringUTF16", name := "indexOfChar", desc := "([BIII)I" } : Jvm.MethodName)) ∈ wA := kA (i := 394) (by decide +kernel) rfl
theorem k_395 : (Jvm.Cond.static ({ cls := "java/lang/StringUTF16", name := "indexOfChar", desc := "([BIII)I" } : Jvm.MethodName)) ∈ wA := kA (i := 395) (by decide +kernel) rfl
theorem k_396 : (Jvm.Cond.code ({ cls := "java/lang/StringUTF16", name := "indexOfChar", desc := "([BIII)I" } : Jvm.MethodName) prog_22_method_47_code (4 : Nat) (Option.some Jvm.ClassFile.FieldType.int)) ∈ wA := kA (i := 396) (by decide +kernel) rfl
theorem k_397 : (Jvm.Cond.methodLink "java/lang/StringUTF16" (96 : Nat) ({ cls := "java/lang/StringUTF16", name := "checkBoundsBeginEnd", desc := "(II[B)V" } : Jvm.MethodName)) ∈ wA := kA (i := 397) (by decide +kernel) rfl
theorem k_398 : (Jvm.Cond.static ({ cls := "java/lang/StringUTF16", name := "checkBoundsBeginEnd", desc := "(II[B)V" } : Jvm.MethodName)) ∈ wA := kA (i := 398) (by decide +kernel) rfl
theorem k_399 : (Jvm.Cond.code ({ cls := "java/lang/StringUTF16", name := "checkBoundsBeginEnd", desc := "(II[B)V" } : Jvm.MethodName) prog_22_method_93_code (3 : Nat) (Option.none : Option Jvm.ClassFile.FieldType)) ∈ wA := kA (i := 399) (by decide +kernel) rfl
theorem k_400 : (Jvm.Cond.methodLink "java/lang/StringUTF16" (48 : Nat) ({ cls := "java/lang/StringUTF16", name := "length", desc := "([B)I" } : Jvm.MethodName)) ∈ wA := kA (i := 400) (by decide +kernel) rfl
theorem k_401 : (Jvm.Cond.static ({ cls := "java/lang/StringUTF16", name := "length", desc := "([B)I" } : Jvm.MethodName)) ∈ wA := kA (i := 401) (by decide +kernel) rfl
theorem k_402 : (Jvm.Cond.code ({ cls := "java/lang/StringUTF16", name := "length", desc := "([B)I" } : Jvm.MethodName) prog_22_method_6_code (1 : Nat) (Option.some Jvm.ClassFile.FieldType.int)) ∈ wA := kA (i := 402) (by decide +kernel) rfl
theorem k_403 : (Jvm.Cond.methodLink "java/lang/StringUTF16" (241 : Nat) ({ cls := "java/lang/String", name := "checkBoundsBeginEnd", desc := "(III)V" } : Jvm.MethodName)) ∈ wA := kA (i := 403) (by decide +kernel) rfl
theorem k_404 : (Jvm.Cond.static ({ cls := "java/lang/String", name := "checkBoundsBeginEnd", desc := "(III)V" } : Jvm.MethodName)) ∈ wA := kA (i := 404) (by decide +kernel) rfl
theorem k_405 : (Jvm.Cond.code ({ cls := "java/lang/String", name := "checkBoundsBeginEnd", desc := "(III)V" } : Jvm.MethodName) prog_20_method_158_code (3 : Nat) (Option.none : Option Jvm.ClassFile.FieldType)) ∈ wA := kA (i := 405) (by decide +kernel) rfl
theorem k_406 : (Jvm.Cond.fieldLink "java/lang/String" (1053 : Nat) "jdk/internal/util/Preconditions" "SIOOBE_FORMATTER" "Ljava/util/function/BiFunction;") ∈ wA := kA (i := 406) (by decide +kernel) rfl
theorem k_408 : (Jvm.Cond.methodLink "java/lang/String" (1062 : Nat) ({ cls := "jdk/internal/util/Preconditions", name := "checkFromToIndex", desc := "(IIILjava/util/function/BiFunction;)I" } : Jvm.MethodName)) ∈ wA := kA (i := 408) (by decide +kernel) rfl
theorem k_409 : (Jvm.Cond.static ({ cls := "jdk/internal/util/Preconditions", name := "checkFromToIndex", desc := "(IIILjava/util/function/BiFunction;)I" } : Jvm.MethodName)) ∈ wA := kA (i := 409) (by decide +kernel) rfl
theorem k_410 : (Jvm.Cond.code ({ cls := "jdk/internal/util/Preconditions", name := "checkFromToIndex", desc := "(IIILjava/util/function/BiFunction;)I" } : Jvm.MethodName) prog_25_method_12_code (4 : Nat) (Option.some Jvm.ClassFile.FieldType.int)) ∈ wA := kA (i := 410) (by decide +kernel) rfl
theorem k_411 : (Jvm.Cond.methodLink "java/lang/StringUTF16" (244 : Nat) ({ cls := "java/lang/StringUTF16", name := "indexOfCharUnsafe", desc := "([BIII)I" } : Jvm.MethodName)) ∈ wA := kA (i := 411) (by decide +kernel) rfl
theorem k_412 : (Jvm.Cond.static ({ cls := "java/lang/StringUTF16", name := "indexOfCharUnsafe", desc := "([BIII)I" } : Jvm.MethodName)) ∈ wA := kA (i := 412) (by decide +kernel) rfl
theorem k_413 : (Jvm.Cond.code ({ cls := "java/lang/StringUTF16", name := "indexOfCharUnsafe", desc := "([BIII)I" } : Jvm.MethodName) prog_22_method_48_code (5 : Nat) (Option.some Jvm.ClassFile.FieldType.int)) ∈ wA := kA (i := 413) (by decide +kernel) rfl
theorem k_414 : (Jvm.Cond.methodLink "java/lang/StringUTF16" (71 : Nat) ({ cls := "java/lang/StringUTF16", name := "getChar", desc := "([BI)C" } : Jvm.MethodName)) ∈ wA := kA (i := 414) (by decide +kernel) rfl
theorem k_415 : (Jvm.Cond.static ({ cls := "java/lang/StringUTF16", name := "getChar", desc := "([BI)C" } : Jvm.MethodName)) ∈ wA := kA (i := 415) (by decide +kernel) rfl
theorem k_416 : (Jvm.Cond.code ({ cls := "java/lang/StringUTF16", name := "getChar", desc := "([BI)C" } : Jvm.MethodName) prog_22_method_5_code (2 : Nat) (Option.some Jvm.ClassFile.FieldType.char)) ∈ wA := kA (i := 416) (by decide +kernel) rfl
theorem k_417 : (Jvm.Cond.fieldLink "java/lang/StringUTF16" (44 : Nat) "java/lang/StringUTF16" "$assertionsDisabled" "Z") ∈ wA := kA (i := 417) (by decide +kernel) rfl
theorem k_419 : (Jvm.Cond.fieldLink "java/lang/StringUTF16" (59 : Nat) "java/lang/StringUTF16" "HI_BYTE_SHIFT" "I") ∈ wA := kA (i := 419) (by decide +kernel) rfl
theorem k_421 : (Jvm.Cond.fieldLink "java/lang/StringUTF16" (63 : Nat) "java/lang/StringUTF16" "LO_BYTE_SHIFT" "I") ∈ wA := kA (i := 421) (by decide +kernel) rfl
theorem k_423 : (Jvm.Cond.methodLink "java/lang/StringUTF16" (232 : Nat) ({ cls := "java/lang/StringUTF16", name := "indexOfSupplementary", desc := "([BIII)I" } : Jvm.MethodName)) ∈ wA := kA (i := 423) (by decide +kernel) rfl
theorem k_424 : (Jvm.Cond.static ({ cls := "java/lang/StringUTF16", name := "indexOfSupplementary", desc := "([BIII)I" } : Jvm.MethodName)) ∈ wA := kA (i := 424) (by decide +kernel) rfl
theorem k_425 : (Jvm.Cond.code ({ cls := "java/lang/StringUTF16", name := "indexOfSupplementary", desc := "([BIII)I" } : Jvm.MethodName) prog_22_method_49_code (7 : Nat) (Option.some Jvm.ClassFile.FieldType.int)) ∈ wA := kA (i := 425) (by decide +kernel) rfl
theorem k_426 : (Jvm.Cond.methodLink "java/lang/StringUTF16" (164 : Nat) ({ cls := "java/lang/Character", name := "isValidCodePoint", desc := "(I)Z" } : Jvm.MethodName)) ∈ wA := kA (i := 426) (by decide +kernel) rfl
theorem k_427 : (Jvm.Cond.static ({ cls := "java/lang/Character", name := "isValidCodePoint", desc := "(I)Z" } : Jvm.MethodName)) ∈ wA := kA (i := 427) (by decide +kernel) rfl
theorem k_428 : (Jvm.Cond.code ({ cls := "java/lang/Character", name := "isValidCodePoint", desc := "(I)Z" } : Jvm.MethodName) prog_14_method_11_code (2 : Nat) (Option.some Jvm.ClassFile.FieldType.boolean)) ∈ wA := kA (i := 428) (by decide +kernel) rfl
theorem k_429 : (Jvm.Cond.methodLink "java/lang/StringUTF16" (157 : Nat) ({ cls := "java/lang/Character", name := "highSurrogate", desc := "(I)C" } : Jvm.MethodName)) ∈ wA := kA (i := 429) (by decide +kernel) rfl
theorem k_430 : (Jvm.Cond.static ({ cls := "java/lang/Character", name := "highSurrogate", desc := "(I)C" } : Jvm.MethodName)) ∈ wA := kA (i := 430) (by decide +kernel) rfl
theorem k_431 : (Jvm.Cond.code ({ cls := "java/lang/Character", name := "highSurrogate", desc := "(I)C" } : Jvm.MethodName) prog_14_method_28_code (1 : Nat) (Option.some Jvm.ClassFile.FieldType.char)) ∈ wA := kA (i := 431) (by decide +kernel) rfl
theorem k_432 : (Jvm.Cond.constant "java/lang/Character" (110 : Nat) (55232 : Int32)) ∈ wA := kA (i := 432) (by decide +kernel) rfl
theorem k_433 : (Jvm.Cond.methodLink "java/lang/StringUTF16" (161 : Nat) ({ cls := "java/lang/Character", name := "lowSurrogate", desc := "(I)C" } : Jvm.MethodName)) ∈ wA := kA (i := 433) (by decide +kernel) rfl
theorem k_434 : (Jvm.Cond.static ({ cls := "java/lang/Character", name := "lowSurrogate", desc := "(I)C" } : Jvm.MethodName)) ∈ wA := kA (i := 434) (by decide +kernel) rfl
theorem k_435 : (Jvm.Cond.code ({ cls := "java/lang/Character", name := "lowSurrogate", desc := "(I)C" } : Jvm.MethodName) prog_14_method_29_code (1 : Nat) (Option.some Jvm.ClassFile.FieldType.char)) ∈ wA := kA (i := 435) (by decide +kernel) rfl
theorem k_436 : (Jvm.Cond.constant "java/lang/Character" (76 : Nat) (56320 : Int32)) ∈ wA := kA (i := 436) (by decide +kernel) rfl
theorem k_437 : (Jvm.Cond.methodLink "ChordGrammars$Reader" (61 : Nat) ({ cls := "ChordGrammars$Reader", name := "readCost", desc := "(LChordGrammars$Draft;)I" } : Jvm.MethodName)) ∈ wA := kA (i := 437) (by decide +kernel) rfl
theorem k_439 : (Jvm.Cond.instanceMethod ({ cls := "ChordGrammars$Reader", name := "readCost", desc := "(LChordGrammars$Draft;)I" } : Jvm.MethodName)) ∈ wA := kA (i := 439) (by decide +kernel) rfl
theorem k_440 : (Jvm.Cond.code ({ cls := "ChordGrammars$Reader", name := "readCost", desc := "(LChordGrammars$Draft;)I" } : Jvm.MethodName) prog_6_method_5_code (5 : Nat) (Option.some Jvm.ClassFile.FieldType.int)) ∈ wA := kA (i := 440) (by decide +kernel) rfl
theorem k_441 : (Jvm.Cond.methodLink "ChordGrammars$Reader" (85 : Nat) ({ cls := "ChordGrammars$Reader", name := "isFigure", desc := "(I)Z" } : Jvm.MethodName)) ∈ wA := kA (i := 441) (by decide +kernel) rfl
theorem k_442 : (Jvm.Cond.static ({ cls := "ChordGrammars$Reader", name := "isFigure", desc := "(I)Z" } : Jvm.MethodName)) ∈ wA := kA (i := 442) (by decide +kernel) rfl
theorem k_443 : (Jvm.Cond.code ({ cls := "ChordGrammars$Reader", name := "isFigure", desc := "(I)Z" } : Jvm.MethodName) prog_6_method_9_code (1 : Nat) (Option.some Jvm.ClassFile.FieldType.boolean)) ∈ wA := kA (i := 443) (by decide +kernel) rfl
theorem k_444 : (Jvm.Cond.methodLink "ChordGrammars$Reader" (40 : Nat) ({ cls := "ChordGrammars$Reader", name := "findReach", desc := "()V" } : Jvm.MethodName)) ∈ wA := kA (i := 444) (by decide +kernel) rfl
theorem k_446 : (Jvm.Cond.instanceMethod ({ cls := "ChordGrammars$Reader", name := "findReach", desc := "()V" } : Jvm.MethodName)) ∈ wA := kA (i := 446) (by decide +kernel) rfl
theorem k_447 : (Jvm.Cond.code ({ cls := "ChordGrammars$Reader", name := "findReach", desc := "()V" } : Jvm.MethodName) prog_6_method_11_code (3 : Nat) (Option.none : Option Jvm.ClassFile.FieldType)) ∈ wA := kA (i := 447) (by decide +kernel) rfl
theorem kn_448 : (Jvm.Cond.methodLinkNest "ChordGrammars$Reader" (98 : Nat) ({ cls := "ChordGrammars$Grammar", name := "renames", desc := "(I)Z" } : Jvm.MethodName) "ChordGrammars") ∈ wN := kN (i := 448) (by decide +kernel) rfl
theorem k_450 : (Jvm.Cond.instanceMethod ({ cls := "ChordGrammars$Grammar", name := "renames", desc := "(I)Z" } : Jvm.MethodName)) ∈ wA := kA (i := 450) (by decide +kernel) rfl
theorem k_451 : (Jvm.Cond.code ({ cls := "ChordGrammars$Grammar", name := "renames", desc := "(I)Z" } : Jvm.MethodName) prog_4_method_3_code (2 : Nat) (Option.some Jvm.ClassFile.FieldType.boolean)) ∈ wA := kA (i := 451) (by decide +kernel) rfl
theorem k_452 : (Jvm.Cond.methodLink "ChordGrammars$Reader" (101 : Nat) ({ cls := "ChordGrammars$Reader", name := "reaches", desc := "(II)Z" } : Jvm.MethodName)) ∈ wA := kA (i := 452) (by decide +kernel) rfl
theorem k_454 : (Jvm.Cond.instanceMethod ({ cls := "ChordGrammars$Reader", name := "reaches", desc := "(II)Z" } : Jvm.MethodName)) ∈ wA := kA (i := 454) (by decide +kernel) rfl
theorem k_455 : (Jvm.Cond.code ({ cls := "ChordGrammars$Reader", name := "reaches", desc := "(II)Z" } : Jvm.MethodName) prog_6_method_12_code (3 : Nat) (Option.some Jvm.ClassFile.FieldType.boolean)) ∈ wA := kA (i := 455) (by decide +kernel) rfl
theorem k_456 : (Jvm.Cond.methodLink "ChordGrammars$Reader" (43 : Nat) ({ cls := "ChordGrammars$Reader", name := "ringPlace", desc := "()I" } : Jvm.MethodName)) ∈ wA := kA (i := 456) (by decide +kernel) rfl
theorem k_458 : (Jvm.Cond.instanceMethod ({ cls := "ChordGrammars$Reader", name := "ringPlace", desc := "()I" } : Jvm.MethodName)) ∈ wA := kA (i := 458) (by decide +kernel) rfl
theorem k_459 : (Jvm.Cond.code ({ cls := "ChordGrammars$Reader", name := "ringPlace", desc := "()I" } : Jvm.MethodName) prog_6_method_13_code (2 : Nat) (Option.some Jvm.ClassFile.FieldType.int)) ∈ wA := kA (i := 459) (by decide +kernel) rfl
theorem k_460 : (Jvm.Cond.methodLink "ChordGrammars$Reader" (47 : Nat) ({ cls := "ChordGrammars$Reader", name := "arrange", desc := "()V" } : Jvm.MethodName)) ∈ wA := kA (i := 460) (by decide +kernel) rfl
theorem k_462 : (Jvm.Cond.instanceMethod ({ cls := "ChordGrammars$Reader", name := "arrange", desc := "()V" } : Jvm.MethodName)) ∈ wA := kA (i := 462) (by decide +kernel) rfl
theorem k_463 : (Jvm.Cond.code ({ cls := "ChordGrammars$Reader", name := "arrange", desc := "()V" } : Jvm.MethodName) prog_6_method_14_code (4 : Nat) (Option.none : Option Jvm.ClassFile.FieldType)) ∈ wA := kA (i := 463) (by decide +kernel) rfl
theorem k_464 : (Jvm.Cond.methodLink "ChordGrammars$Reader" (105 : Nat) ({ cls := "java/lang/Integer", name := "bitCount", desc := "(I)I" } : Jvm.MethodName)) ∈ wA := kA (i := 464) (by decide +kernel) rfl
theorem k_465 : (Jvm.Cond.static ({ cls := "java/lang/Integer", name := "bitCount", desc := "(I)I" } : Jvm.MethodName)) ∈ wA := kA (i := 465) (by decide +kernel) rfl
theorem k_466 : (Jvm.Cond.code ({ cls := "java/lang/Integer", name := "bitCount", desc := "(I)I" } : Jvm.MethodName) prog_17_method_49_code (1 : Nat) (Option.some Jvm.ClassFile.FieldType.int)) ∈ wA := kA (i := 466) (by decide +kernel) rfl
theorem k_467 : (Jvm.Cond.constant "java/lang/Integer" (265 : Nat) (1431655765 : Int32)) ∈ wA := kA (i := 467) (by decide +kernel) rfl
theorem k_468 : (Jvm.Cond.constant "java/lang/Integer" (266 : Nat) (858993459 : Int32)) ∈ wA := kA (i := 468) (by decide +kernel) rfl
theorem k_469 : (Jvm.Cond.constant "java/lang/Integer" (267 : Nat) (252645135 : Int32)) ∈ wA := kA (i := 469) (by decide +kernel) rfl
theorem kn_470 : (Jvm.Cond.methodLinkNest "ChordGrammars" (87 : Nat) ({ cls := "ChordGrammars$Grammar", name := "become", desc := "(LChordGrammars$Grammar;)V" } : Jvm.MethodName) "ChordGrammars") ∈ wN := kN (i := 470) (by decide +kernel) rfl
theorem k_472 : (Jvm.Cond.instanceMethod ({ cls := "ChordGrammars$Grammar", name := "become", desc := "(LChordGrammars$Grammar;)V" } : Jvm.MethodName)) ∈ wA := kA (i := 472) (by decide +kernel) rfl
theorem k_473 : (Jvm.Cond.code ({ cls := "ChordGrammars$Grammar", name := "become", desc := "(LChordGrammars$Grammar;)V" } : Jvm.MethodName) prog_4_method_2_code (2 : Nat) (Option.none : Option Jvm.ClassFile.FieldType)) ∈ wA := kA (i := 473) (by decide +kernel) rfl
theorem k_474 : (Jvm.Cond.methodLink "ChordGrammars$Grammar" (31 : Nat) ({ cls := "java/lang/System", name := "arraycopy", desc := "(Ljava/lang/Object;ILjava/lang/Object;II)V" } : Jvm.MethodName)) ∈ wA := kA (i := 474) (by decide +kernel) rfl
theorem k_475 : (Jvm.Cond.static ({ cls := "java/lang/System", name := "arraycopy", desc := "(Ljava/lang/Object;ILjava/lang/Object;II)V" } : Jvm.MethodName)) ∈ wA := kA (i := 475) (by decide +kernel) rfl
theorem k_476 : (Jvm.Cond.native ({ cls := "java/lang/System", name := "arraycopy", desc := "(Ljava/lang/Object;ILjava/lang/Object;II)V" } : Jvm.MethodName)) ∈ wA := kA (i := 476) (by decide +kernel) rfl
theorem k_477 : (Jvm.Cond.methodLink "ChordGrammarsLaw" (41 : Nat) ({ cls := "ChordGrammars", name := "slot", desc := "(III)I" } : Jvm.MethodName)) ∈ wA := kA (i := 477) (by decide +kernel) rfl
theorem k_478 : (Jvm.Cond.instanceMethod ({ cls := "ChordGrammars", name := "slot", desc := "(III)I" } : Jvm.MethodName)) ∈ wA := kA (i := 478) (by decide +kernel) rfl
theorem k_479 : (Jvm.Cond.selects "ChordGrammars" ({ cls := "ChordGrammars", name := "slot", desc := "(III)I" } : Jvm.MethodName) ({ cls := "ChordGrammars", name := "slot", desc := "(III)I" } : Jvm.MethodName)) ∈ wA := kA (i := 479) (by decide +kernel) rfl
theorem k_480 : (Jvm.Cond.code ({ cls := "ChordGrammars", name := "slot", desc := "(III)I" } : Jvm.MethodName) prog_1_method_6_code (4 : Nat) (Option.some Jvm.ClassFile.FieldType.int)) ∈ wA := kA (i := 480) (by decide +kernel) rfl
theorem kn_481 : (Jvm.Cond.methodLinkNest "ChordGrammars" (94 : Nat) ({ cls := "ChordGrammars$Slots", name := "add", desc := "(III)I" } : Jvm.MethodName) "ChordGrammars") ∈ wN := kN (i := 481) (by decide +kernel) rfl
theorem k_483 : (Jvm.Cond.instanceMethod ({ cls := "ChordGrammars$Slots", name := "add", desc := "(III)I" } : Jvm.MethodName)) ∈ wA := kA (i := 483) (by decide +kernel) rfl
theorem k_484 : (Jvm.Cond.code ({ cls := "ChordGrammars$Slots", name := "add", desc := "(III)I" } : Jvm.MethodName) prog_7_method_3_code (4 : Nat) (Option.some Jvm.ClassFile.FieldType.int)) ∈ wA := kA (i := 484) (by decide +kernel) rfl
theorem k_485 : (Jvm.Cond.methodLink "ChordGrammarsLaw" (46 : Nat) ({ cls := "ChordGrammars", name := "clear", desc := "()I" } : Jvm.MethodName)) ∈ wA := kA (i := 485) (by decide +kernel) rfl
theorem k_486 : (Jvm.Cond.instanceMethod ({ cls := "ChordGrammars", name := "clear", desc := "()I" } : Jvm.MethodName)) ∈ wA := kA (i := 486) (by decide +kernel) rfl
theorem k_487 : (Jvm.Cond.selects "ChordGrammars" ({ cls := "ChordGrammars", name := "clear", desc := "()I" } : Jvm.MethodName) ({ cls := "ChordGrammars", name := "clear", desc := "()I" } : Jvm.MethodName)) ∈ wA := kA (i := 487) (by decide +kernel) rfl
theorem k_488 : (Jvm.Cond.code ({ cls := "ChordGrammars", name := "clear", desc := "()I" } : Jvm.MethodName) prog_1_method_7_code (2 : Nat) (Option.some Jvm.ClassFile.FieldType.int)) ∈ wA := kA (i := 488) (by decide +kernel) rfl
theorem k_489 : (Jvm.Cond.methodLink "ChordGrammarsLaw" (50 : Nat) ({ cls := "ChordGrammars", name := "fit", desc := "(III)I" } : Jvm.MethodName)) ∈ wA := kA (i := 489) (by decide +kernel) rfl
theorem k_490 : (Jvm.Cond.instanceMethod ({ cls := "ChordGrammars", name := "fit", desc := "(III)I" } : Jvm.MethodName)) ∈ wA := kA (i := 490) (by decide +kernel) rfl
theorem k_491 : (Jvm.Cond.selects "ChordGrammars" ({ cls := "ChordGrammars", name := "fit", desc := "(III)I" } : Jvm.MethodName) ({ cls := "ChordGrammars", name := "fit", desc := "(III)I" } : Jvm.MethodName)) ∈ wA := kA (i := 491) (by decide +kernel) rfl
theorem k_492 : (Jvm.Cond.code ({ cls := "ChordGrammars", name := "fit", desc := "(III)I" } : Jvm.MethodName) prog_1_method_8_code (4 : Nat) (Option.some Jvm.ClassFile.FieldType.int)) ∈ wA := kA (i := 492) (by decide +kernel) rfl
theorem kn_493 : (Jvm.Cond.methodLinkNest "ChordGrammars" (101 : Nat) ({ cls := "ChordGrammars$Slots", name := "has", desc := "(I)Z" } : Jvm.MethodName) "ChordGrammars") ∈ wN := kN (i := 493) (by decide +kernel) rfl
theorem k_495 : (Jvm.Cond.instanceMethod ({ cls := "ChordGrammars$Slots", name := "has", desc := "(I)Z" } : Jvm.MethodName)) ∈ wA := kA (i := 495) (by decide +kernel) rfl
theorem k_496 : (Jvm.Cond.code ({ cls := "ChordGrammars$Slots", name := "has", desc := "(I)Z" } : Jvm.MethodName) prog_7_method_2_code (2 : Nat) (Option.some Jvm.ClassFile.FieldType.boolean)) ∈ wA := kA (i := 496) (by decide +kernel) rfl
theorem kn_497 : (Jvm.Cond.methodLinkNest "ChordGrammars" (112 : Nat) ({ cls := "ChordGrammars$Tariff", name := "ofFit", desc := "(IIII)I" } : Jvm.MethodName) "ChordGrammars") ∈ wN := kN (i := 497) (by decide +kernel) rfl
theorem k_499 : (Jvm.Cond.instanceMethod ({ cls := "ChordGrammars$Tariff", name := "ofFit", desc := "(IIII)I" } : Jvm.MethodName)) ∈ wA := kA (i := 499) (by decide +kernel) rfl
theorem k_500 : (Jvm.Cond.code ({ cls := "ChordGrammars$Tariff", name := "ofFit", desc := "(IIII)I" } : Jvm.MethodName) prog_9_method_3_code (9 : Nat) (Option.some Jvm.ClassFile.FieldType.int)) ∈ wA := kA (i := 500) (by decide +kernel) rfl
theorem kn_501 : (Jvm.Cond.methodLinkNest "ChordGrammars$Tariff" (15 : Nat) ({ cls := "ChordGrammars", name := "chordSet", desc := "(II)I" } : Jvm.MethodName) "ChordGrammars") ∈ wN := kN (i := 501) (by decide +kernel) rfl
theorem k_502 : (Jvm.Cond.static ({ cls := "ChordGrammars", name := "chordSet", desc := "(II)I" } : Jvm.MethodName)) ∈ wA := kA (i := 502) (by decide +kernel) rfl
theorem k_503 : (Jvm.Cond.code ({ cls := "ChordGrammars", name := "chordSet", desc := "(II)I" } : Jvm.MethodName) prog_1_method_22_code (3 : Nat) (Option.some Jvm.ClassFile.FieldType.int)) ∈ wA := kA (i := 503) (by decide +kernel) rfl
theorem k_504 : (Jvm.Cond.fieldLink "ChordGrammars" (199 : Nat) "ChordGrammars" "KIND_SETS" "[I") ∈ wA := kA (i := 504) (by decide +kernel) rfl
theorem k_506 : (Jvm.Cond.methodLink "ChordGrammars$Tariff" (19 : Nat) ({ cls := "java/lang/Integer", name := "bitCount", desc := "(I)I" } : Jvm.MethodName)) ∈ wA := kA (i := 506) (by decide +kernel) rfl
theorem k_507 : (Jvm.Cond.methodLink "ChordGrammars$Tariff" (25 : Nat) ({ cls := "ChordGrammars$Tariff", name := "ofBass", desc := "(III)I" } : Jvm.MethodName)) ∈ wA := kA (i := 507) (by decide +kernel) rfl
theorem k_509 : (Jvm.Cond.instanceMethod ({ cls := "ChordGrammars$Tariff", name := "ofBass", desc := "(III)I" } : Jvm.MethodName)) ∈ wA := kA (i := 509) (by decide +kernel) rfl
theorem k_510 : (Jvm.Cond.code ({ cls := "ChordGrammars$Tariff", name := "ofBass", desc := "(III)I" } : Jvm.MethodName) prog_9_method_4_code (4 : Nat) (Option.some Jvm.ClassFile.FieldType.int)) ∈ wA := kA (i := 510) (by decide +kernel) rfl
theorem k_511 : (Jvm.Cond.methodLink "ChordGrammarsLaw" (54 : Nat) ({ cls := "ChordGrammars", name := "best", desc := "(I)I" } : Jvm.MethodName)) ∈ wA := kA (i := 511) (by decide +kernel) rfl
theorem k_512 : (Jvm.Cond.instanceMethod ({ cls := "ChordGrammars", name := "best", desc := "(I)I" } : Jvm.MethodName)) ∈ wA := kA (i := 512) (by decide +kernel) rfl
theorem k_513 : (Jvm.Cond.selects "ChordGrammars" ({ cls := "ChordGrammars", name := "best", desc := "(I)I" } : Jvm.MethodName) ({ cls := "ChordGrammars", name := "best", desc := "(I)I" } : Jvm.MethodName)) ∈ wA := kA (i := 513) (by decide +kernel) rfl
theorem k_514 : (Jvm.Cond.code ({ cls := "ChordGrammars", name := "best", desc := "(I)I" } : Jvm.MethodName) prog_1_method_9_code (2 : Nat) (Option.some Jvm.ClassFile.FieldType.int)) ∈ wA := kA (i := 514) (by decide +kernel) rfl
theorem kn_515 : (Jvm.Cond.methodLinkNest "ChordGrammars" (116 : Nat) ({ cls := "ChordGrammars$Tariff", name := "cheapest", desc := "(II)I" } : Jvm.MethodName) "ChordGrammars") ∈ wN := kN (i := 515) (by decide +kernel) rfl
theorem k_517 : (Jvm.Cond.instanceMethod ({ cls := "ChordGrammars$Tariff", name := "cheapest", desc := "(II)I" } : Jvm.MethodName)) ∈ wA := kA (i := 517) (by decide +kernel) rfl
theorem k_518 : (Jvm.Cond.code ({ cls := "ChordGrammars$Tariff", name := "cheapest", desc := "(II)I" } : Jvm.MethodName) prog_9_method_5_code (8 : Nat) (Option.some Jvm.ClassFile.FieldType.int)) ∈ wA := kA (i := 518) (by decide +kernel) rfl
theorem k_519 : (Jvm.Cond.constant "ChordGrammars$Tariff" (29 : Nat) (2147483647 : Int32)) ∈ wA := kA (i := 519) (by decide +kernel) rfl
theorem k_520 : (Jvm.Cond.methodLink "ChordGrammars$Tariff" (30 : Nat) ({ cls := "ChordGrammars$Tariff", name := "ofFit", desc := "(IIII)I" } : Jvm.MethodName)) ∈ wA := kA (i := 520) (by decide +kernel) rfl
theorem k_521 : (Jvm.Cond.methodLink "ChordGrammarsLaw" (59 : Nat) ({ cls := "ChordGrammars", name := "parse", desc := "()I" } : Jvm.MethodName)) ∈ wA := kA (i := 521) (by decide +kernel) rfl
theorem k_522 : (Jvm.Cond.instanceMethod ({ cls := "ChordGrammars", name := "parse", desc := "()I" } : Jvm.MethodName)) ∈ wA := kA (i := 522) (by decide +kernel) rfl
theorem k_523 : (Jvm.Cond.selects "ChordGrammars" ({ cls := "ChordGrammars", name := "parse", desc := "()I" } : Jvm.MethodName) ({ cls := "ChordGrammars", name := "parse", desc := "()I" } : Jvm.MethodName)) ∈ wA := kA (i := 523) (by decide +kernel) rfl
theorem k_524 : (Jvm.Cond.code ({ cls := "ChordGrammars", name := "parse", desc := "()I" } : Jvm.MethodName) prog_1_method_10_code (1 : Nat) (Option.some Jvm.ClassFile.FieldType.int)) ∈ wA := kA (i := 524) (by decide +kernel) rfl
theorem kn_525 : (Jvm.Cond.methodLinkNest "ChordGrammars" (120 : Nat) ({ cls := "ChordGrammars$Chart", name := "listAll", desc := "(LChordGrammars$Grammar;LChordGrammars$Slots;LChordGrammars$Key;LChordGrammars$Tariff;)V" } : Jvm.MethodName) "ChordGrammars") ∈ wN := kN (i := 525) (by decide +kernel) rfl
theorem k_527 : (Jvm.Cond.instanceMethod ({ cls := "ChordGrammars$Chart", name := "listAll", desc := "(LChordGrammars$Grammar;LChordGrammars$Slots;LChordGrammars$Key;LChordGrammars$Tariff;)V" } : Jvm.MethodName)) ∈ wA := kA (i := 527) (by decide +kernel) rfl
theorem k_528 : (Jvm.Cond.code ({ cls := "ChordGrammars$Chart", name := "listAll", desc := "(LChordGrammars$Grammar;LChordGrammars$Slots;LChordGrammars$Key;LChordGrammars$Tariff;)V" } : Jvm.MethodName) prog_2_method_2_code (7 : Nat) (Option.none : Option Jvm.ClassFile.FieldType)) ∈ wA := kA (i := 528) (by decide +kernel) rfl
theorem kn_529 : (Jvm.Cond.methodLinkNest "ChordGrammars$Chart" (44 : Nat) ({ cls := "ChordGrammars$Grammar", name := "become", desc := "(LChordGrammars$Grammar;)V" } : Jvm.MethodName) "ChordGrammars") ∈ wN := kN (i := 529) (by decide +kernel) rfl
theorem k_530 : (Jvm.Cond.methodLink "ChordGrammars$Chart" (54 : Nat) ({ cls := "java/lang/System", name := "arraycopy", desc := "(Ljava/lang/Object;ILjava/lang/Object;II)V" } : Jvm.MethodName)) ∈ wA := kA (i := 530) (by decide +kernel) rfl
theorem kn_531 : (Jvm.Cond.methodLinkNest "ChordGrammars$Chart" (60 : Nat) ({ cls := "ChordGrammars$Symbols", name := "fill", desc := "(LChordGrammars$Slots;LChordGrammars$Key;LChordGrammars$Tariff;)V" } : Jvm.MethodName) "ChordGrammars") ∈ wN := kN (i := 531) (by decide +kernel) rfl
theorem k_533 : (Jvm.Cond.instanceMethod ({ cls := "ChordGrammars$Symbols", name := "fill", desc := "(LChordGrammars$Slots;LChordGrammars$Key;LChordGrammars$Tariff;)V" } : Jvm.MethodName)) ∈ wA := kA (i := 533) (by decide +kernel) rfl
theorem k_534 : (Jvm.Cond.code ({ cls := "ChordGrammars$Symbols", name := "fill", desc := "(LChordGrammars$Slots;LChordGrammars$Key;LChordGrammars$Tariff;)V" } : Jvm.MethodName) prog_8_method_2_code (6 : Nat) (Option.none : Option Jvm.ClassFile.FieldType)) ∈ wA := kA (i := 534) (by decide +kernel) rfl
theorem kn_535 : (Jvm.Cond.methodLinkNest "ChordGrammars$Symbols" (24 : Nat) ({ cls := "ChordGrammars$Key", name := "rootOf", desc := "(I)I" } : Jvm.MethodName) "ChordGrammars") ∈ wN := kN (i := 535) (by decide +kernel) rfl
theorem k_537 : (Jvm.Cond.instanceMethod ({ cls := "ChordGrammars$Key", name := "rootOf", desc := "(I)I" } : Jvm.MethodName)) ∈ wA := kA (i := 537) (by decide +kernel) rfl
theorem k_538 : (Jvm.Cond.code ({ cls := "ChordGrammars$Key", name := "rootOf", desc := "(I)I" } : Jvm.MethodName) prog_5_method_3_code (2 : Nat) (Option.some Jvm.ClassFile.FieldType.int)) ∈ wA := kA (i := 538) (by decide +kernel) rfl
theorem kn_539 : (Jvm.Cond.fieldLinkNest "ChordGrammars$Key" (19 : Nat) "ChordGrammars" "MINOR" "[I" "ChordGrammars") ∈ wN := kN (i := 539) (by decide +kernel) rfl
theorem kn_541 : (Jvm.Cond.fieldLinkNest "ChordGrammars$Key" (23 : Nat) "ChordGrammars" "MAJOR" "[I" "ChordGrammars") ∈ wN := kN (i := 541) (by decide +kernel) rfl
theorem k_543 : (Jvm.Cond.methodLink "ChordGrammars$Symbols" (30 : Nat) ({ cls := "ChordGrammars$Symbols", name := "fillDegree", desc := "(LChordGrammars$Slots;IIILChordGrammars$Tariff;)V" } : Jvm.MethodName)) ∈ wA := kA (i := 543) (by decide +kernel) rfl
theorem k_545 : (Jvm.Cond.instanceMethod ({ cls := "ChordGrammars$Symbols", name := "fillDegree", desc := "(LChordGrammars$Slots;IIILChordGrammars$Tariff;)V" } : Jvm.MethodName)) ∈ wA := kA (i := 545) (by decide +kernel) rfl
theorem k_546 : (Jvm.Cond.code ({ cls := "ChordGrammars$Symbols", name := "fillDegree", desc := "(LChordGrammars$Slots;IIILChordGrammars$Tariff;)V" } : Jvm.MethodName) prog_8_method_3_code (11 : Nat) (Option.none : Option Jvm.ClassFile.FieldType)) ∈ wA := kA (i := 546) (by decide +kernel) rfl
theorem kn_547 : (Jvm.Cond.methodLinkNest "ChordGrammars$Symbols" (40 : Nat) ({ cls := "ChordGrammars$Tariff", name := "ofFit", desc := "(IIII)I" } : Jvm.MethodName) "ChordGrammars") ∈ wN := kN (i := 547) (by decide +kernel) rfl
theorem k_548 : (Jvm.Cond.methodLink "ChordGrammars$Chart" (64 : Nat) ({ cls := "ChordGrammars$Chart", name := "fillSpan", desc := "(II)V" } : Jvm.MethodName)) ∈ wA := kA (i := 548) (by decide +kernel) rfl
theorem k_550 : (Jvm.Cond.instanceMethod ({ cls := "ChordGrammars$Chart", name := "fillSpan", desc := "(II)V" } : Jvm.MethodName)) ∈ wA := kA (i := 550) (by decide +kernel) rfl
theorem k_551 : (Jvm.Cond.code ({ cls := "ChordGrammars$Chart", name := "fillSpan", desc := "(II)V" } : Jvm.MethodName) prog_2_method_3_code (6 : Nat) (Option.none : Option Jvm.ClassFile.FieldType)) ∈ wA := kA (i := 551) (by decide +kernel) rfl
theorem k_552 : (Jvm.Cond.methodLink "ChordGrammars$Chart" (68 : Nat) ({ cls := "ChordGrammars$Chart", name := "rowOf", desc := "(III)I" } : Jvm.MethodName)) ∈ wA := kA (i := 552) (by decide +kernel) rfl
theorem k_553 : (Jvm.Cond.static ({ cls := "ChordGrammars$Chart", name := "rowOf", desc := "(III)I" } : Jvm.MethodName)) ∈ wA := kA (i := 553) (by decide +kernel) rfl
theorem k_554 : (Jvm.Cond.code ({ cls := "ChordGrammars$Chart", name := "rowOf", desc := "(III)I" } : Jvm.MethodName) prog_2_method_18_code (3 : Nat) (Option.some Jvm.ClassFile.FieldType.int)) ∈ wA := kA (i := 554) (by decide +kernel) rfl
theorem k_555 : (Jvm.Cond.methodLink "ChordGrammars$Chart" (81 : Nat) ({ cls := "ChordGrammars$Chart", name := "addWhole", desc := "(III)V" } : Jvm.MethodName)) ∈ wA := kA (i := 555) (by decide +kernel) rfl
theorem k_557 : (Jvm.Cond.instanceMethod ({ cls := "ChordGrammars$Chart", name := "addWhole", desc := "(III)V" } : Jvm.MethodName)) ∈ wA := kA (i := 557) (by decide +kernel) rfl
theorem k_558 : (Jvm.Cond.code ({ cls := "ChordGrammars$Chart", name := "addWhole", desc := "(III)V" } : Jvm.MethodName) prog_2_method_4_code (10 : Nat) (Option.none : Option Jvm.ClassFile.FieldType)) ∈ wA := kA (i := 558) (by decide +kernel) rfl
theorem k_559 : (Jvm.Cond.methodLink "ChordGrammars$Chart" (95 : Nat) ({ cls := "ChordGrammars$Chart", name := "sizeOf", desc := "(III)I" } : Jvm.MethodName)) ∈ wA := kA (i := 559) (by decide +kernel) rfl
theorem k_561 : (Jvm.Cond.instanceMethod ({ cls := "ChordGrammars$Chart", name := "sizeOf", desc := "(III)I" } : Jvm.MethodName)) ∈ wA := kA (i := 561) (by decide +kernel) rfl
theorem k_562 : (Jvm.Cond.code ({ cls := "ChordGrammars$Chart", name := "sizeOf", desc := "(III)I" } : Jvm.MethodName) prog_2_method_13_code (4 : Nat) (Option.some Jvm.ClassFile.FieldType.int)) ∈ wA := kA (i := 562) (by decide +kernel) rfl
theorem k_563 : (Jvm.Cond.methodLink "ChordGrammars$Chart" (131 : Nat) ({ cls := "ChordGrammars$Chart", name := "chordOf", desc := "(II)I" } : Jvm.MethodName)) ∈ wA := kA (i := 563) (by decide +kernel) rfl
theorem k_565 : (Jvm.Cond.instanceMethod ({ cls := "ChordGrammars$Chart", name := "chordOf", desc := "(II)I" } : Jvm.MethodName)) ∈ wA := kA (i := 565) (by decide +kernel) rfl
theorem k_566 : (Jvm.Cond.code ({ cls := "ChordGrammars$Chart", name := "chordOf", desc := "(II)I" } : Jvm.MethodName) prog_2_method_16_code (3 : Nat) (Option.some Jvm.ClassFile.FieldType.int)) ∈ wA := kA (i := 566) (by decide +kernel) rfl
theorem k_567 : (Jvm.Cond.methodLink "ChordGrammars$Chart" (98 : Nat) ({ cls := "ChordGrammars$Chart", name := "countOf", desc := "(III)J" } : Jvm.MethodName)) ∈ wA := kA (i := 567) (by decide +kernel) rfl
theorem k_569 : (Jvm.Cond.instanceMethod ({ cls := "ChordGrammars$Chart", name := "countOf", desc := "(III)J" } : Jvm.MethodName)) ∈ wA := kA (i := 569) (by decide +kernel) rfl
theorem k_570 : (Jvm.Cond.code ({ cls := "ChordGrammars$Chart", name := "countOf", desc := "(III)J" } : Jvm.MethodName) prog_2_method_14_code (4 : Nat) (Option.some Jvm.ClassFile.FieldType.long)) ∈ wA := kA (i := 570) (by decide +kernel) rfl
theorem k_571 : (Jvm.Cond.methodLink "ChordGrammars$Chart" (105 : Nat) ({ cls := "ChordGrammars$Chart", name := "priceOf", desc := "(IIII)I" } : Jvm.MethodName)) ∈ wA := kA (i := 571) (by decide +kernel) rfl
theorem k_573 : (Jvm.Cond.instanceMethod ({ cls := "ChordGrammars$Chart", name := "priceOf", desc := "(IIII)I" } : Jvm.MethodName)) ∈ wA := kA (i := 573) (by decide +kernel) rfl
theorem k_574 : (Jvm.Cond.code ({ cls := "ChordGrammars$Chart", name := "priceOf", desc := "(IIII)I" } : Jvm.MethodName) prog_2_method_15_code (5 : Nat) (Option.some Jvm.ClassFile.FieldType.int)) ∈ wA := kA (i := 574) (by decide +kernel) rfl
theorem k_575 : (Jvm.Cond.methodLink "ChordGrammars$Chart" (134 : Nat) ({ cls := "ChordGrammars$Chart", name := "entryAt", desc := "(IIII)J" } : Jvm.MethodName)) ∈ wA := kA (i := 575) (by decide +kernel) rfl
theorem k_577 : (Jvm.Cond.instanceMethod ({ cls := "ChordGrammars$Chart", name := "entryAt", desc := "(IIII)J" } : Jvm.MethodName)) ∈ wA := kA (i := 577) (by decide +kernel) rfl
theorem k_578 : (Jvm.Cond.code ({ cls := "ChordGrammars$Chart", name := "entryAt", desc := "(IIII)J" } : Jvm.MethodName) prog_2_method_17_code (5 : Nat) (Option.some Jvm.ClassFile.FieldType.long)) ∈ wA := kA (i := 578) (by decide +kernel) rfl
theorem k_579 : (Jvm.Cond.methodLink "ChordGrammars$Chart" (109 : Nat) ({ cls := "ChordGrammars$Chart", name := "entryOf", desc := "(IIIII)J" } : Jvm.MethodName)) ∈ wA := kA (i := 579) (by decide +kernel) rfl
theorem k_580 : (Jvm.Cond.static ({ cls := "ChordGrammars$Chart", name := "entryOf", desc := "(IIIII)J" } : Jvm.MethodName)) ∈ wA := kA (i := 580) (by decide +kernel) rfl
theorem k_581 : (Jvm.Cond.code ({ cls := "ChordGrammars$Chart", name := "entryOf", desc := "(IIIII)J" } : Jvm.MethodName) prog_2_method_19_code (7 : Nat) (Option.some Jvm.ClassFile.FieldType.long)) ∈ wA := kA (i := 581) (by decide +kernel) rfl
theorem k_582 : (Jvm.Cond.methodLink "ChordGrammars$Chart" (113 : Nat) ({ cls := "ChordGrammars$Chart", name := "offer", desc := "(IJ)Z" } : Jvm.MethodName)) ∈ wA := kA (i := 582) (by decide +kernel) rfl
theorem k_584 : (Jvm.Cond.instanceMethod ({ cls := "ChordGrammars$Chart", name := "offer", desc := "(IJ)Z" } : Jvm.MethodName)) ∈ wA := kA (i := 584) (by decide +kernel) rfl
theorem k_585 : (Jvm.Cond.code ({ cls := "ChordGrammars$Chart", name := "offer", desc := "(IJ)Z" } : Jvm.MethodName) prog_2_method_6_code (6 : Nat) (Option.some Jvm.ClassFile.FieldType.boolean)) ∈ wA := kA (i := 585) (by decide +kernel) rfl
theorem k_586 : (Jvm.Cond.methodLink "ChordGrammars$Chart" (85 : Nat) ({ cls := "ChordGrammars$Chart", name := "addParts", desc := "(IIII)V" } : Jvm.MethodName)) ∈ wA := kA (i := 586) (by decide +kernel) rfl
theorem k_588 : (Jvm.Cond.instanceMethod ({ cls := "ChordGrammars$Chart", name := "addParts", desc := "(IIII)V" } : Jvm.MethodName)) ∈ wA := kA (i := 588) (by decide +kernel) rfl
theorem k_589 : (Jvm.Cond.code ({ cls := "ChordGrammars$Chart", name := "addParts", desc := "(IIII)V" } : Jvm.MethodName) prog_2_method_5_code (16 : Nat) (Option.none : Option Jvm.ClassFile.FieldType)) ∈ wA := kA (i := 589) (by decide +kernel) rfl
theorem k_590 : (Jvm.Cond.methodLink "ChordGrammars$Chart" (117 : Nat) ({ cls := "java/lang/Math", name := "min", desc := "(II)I" } : Jvm.MethodName)) ∈ wA := kA (i := 590) (by decide +kernel) rfl
theorem kn_591 : (Jvm.Cond.methodLinkNest "ChordGrammars" (127 : Nat) ({ cls := "ChordGrammars$Chart", name := "listed", desc := "()I" } : Jvm.MethodName) "ChordGrammars") ∈ wN := kN (i := 591) (by decide +kernel) rfl
theorem k_593 : (Jvm.Cond.instanceMethod ({ cls := "ChordGrammars$Chart", name := "listed", desc := "()I" } : Jvm.MethodName)) ∈ wA := kA (i := 593) (by decide +kernel) rfl
theorem k_594 : (Jvm.Cond.code ({ cls := "ChordGrammars$Chart", name := "listed", desc := "()I" } : Jvm.MethodName) prog_2_method_7_code (1 : Nat) (Option.some Jvm.ClassFile.FieldType.int)) ∈ wA := kA (i := 594) (by decide +kernel) rfl
theorem k_595 : (Jvm.Cond.methodLink "ChordGrammars$Chart" (123 : Nat) ({ cls := "ChordGrammars$Chart", name := "wholeRow", desc := "()I" } : Jvm.MethodName)) ∈ wA := kA (i := 595) (by decide +kernel) rfl
theorem k_597 : (Jvm.Cond.instanceMethod ({ cls := "ChordGrammars$Chart", name := "wholeRow", desc := "()I" } : Jvm.MethodName)) ∈ wA := kA (i := 597) (by decide +kernel) rfl
theorem k_598 : (Jvm.Cond.code ({ cls := "ChordGrammars$Chart", name := "wholeRow", desc := "()I" } : Jvm.MethodName) prog_2_method_10_code (1 : Nat) (Option.some Jvm.ClassFile.FieldType.int)) ∈ wA := kA (i := 598) (by decide +kernel) rfl
theorem k_599 : (Jvm.Cond.methodLink "ChordGrammarsLaw" (63 : Nat) ({ cls := "ChordGrammars", name := "readings", desc := "()J" } : Jvm.MethodName)) ∈ wA := kA (i := 599) (by decide +kernel) rfl
theorem k_600 : (Jvm.Cond.instanceMethod ({ cls := "ChordGrammars", name := "readings", desc := "()J" } : Jvm.MethodName)) ∈ wA := kA (i := 600) (by decide +kernel) rfl
theorem k_601 : (Jvm.Cond.selects "ChordGrammars" ({ cls := "ChordGrammars", name := "readings", desc := "()J" } : Jvm.MethodName) ({ cls := "ChordGrammars", name := "readings", desc := "()J" } : Jvm.MethodName)) ∈ wA := kA (i := 601) (by decide +kernel) rfl
theorem k_602 : (Jvm.Cond.code ({ cls := "ChordGrammars", name := "readings", desc := "()J" } : Jvm.MethodName) prog_1_method_11_code (1 : Nat) (Option.some Jvm.ClassFile.FieldType.long)) ∈ wA := kA (i := 602) (by decide +kernel) rfl
theorem kn_603 : (Jvm.Cond.methodLinkNest "ChordGrammars" (131 : Nat) ({ cls := "ChordGrammars$Chart", name := "countOfAll", desc := "()J" } : Jvm.MethodName) "ChordGrammars") ∈ wN := kN (i := 603) (by decide +kernel) rfl
theorem k_605 : (Jvm.Cond.instanceMethod ({ cls := "ChordGrammars$Chart", name := "countOfAll", desc := "()J" } : Jvm.MethodName)) ∈ wA := kA (i := 605) (by decide +kernel) rfl
theorem k_606 : (Jvm.Cond.code ({ cls := "ChordGrammars$Chart", name := "countOfAll", desc := "()J" } : Jvm.MethodName) prog_2_method_8_code (1 : Nat) (Option.some Jvm.ClassFile.FieldType.long)) ∈ wA := kA (i := 606) (by decide +kernel) rfl
theorem k_607 : (Jvm.Cond.methodLink "ChordGrammarsLaw" (68 : Nat) ({ cls := "ChordGrammars", name := "price", desc := "(I)I" } : Jvm.MethodName)) ∈ wA := kA (i := 607) (by decide +kernel) rfl
theorem k_608 : (Jvm.Cond.instanceMethod ({ cls := "ChordGrammars", name := "price", desc := "(I)I" } : Jvm.MethodName)) ∈ wA := kA (i := 608) (by decide +kernel) rfl
theorem k_609 : (Jvm.Cond.selects "ChordGrammars" ({ cls := "ChordGrammars", name := "price", desc := "(I)I" } : Jvm.MethodName) ({ cls := "ChordGrammars", name := "price", desc := "(I)I" } : Jvm.MethodName)) ∈ wA := kA (i := 609) (by decide +kernel) rfl
theorem k_610 : (Jvm.Cond.code ({ cls := "ChordGrammars", name := "price", desc := "(I)I" } : Jvm.MethodName) prog_1_method_12_code (2 : Nat) (Option.some Jvm.ClassFile.FieldType.int)) ∈ wA := kA (i := 610) (by decide +kernel) rfl
theorem k_611 : (Jvm.Cond.methodLink "ChordGrammars" (135 : Nat) ({ cls := "ChordGrammars", name := "isListed", desc := "(I)Z" } : Jvm.MethodName)) ∈ wA := kA (i := 611) (by decide +kernel) rfl
theorem k_613 : (Jvm.Cond.instanceMethod ({ cls := "ChordGrammars", name := "isListed", desc := "(I)Z" } : Jvm.MethodName)) ∈ wA := kA (i := 613) (by decide +kernel) rfl
theorem k_614 : (Jvm.Cond.code ({ cls := "ChordGrammars", name := "isListed", desc := "(I)Z" } : Jvm.MethodName) prog_1_method_20_code (2 : Nat) (Option.some Jvm.ClassFile.FieldType.boolean)) ∈ wA := kA (i := 614) (by decide +kernel) rfl
theorem kn_615 : (Jvm.Cond.methodLinkNest "ChordGrammars" (138 : Nat) ({ cls := "ChordGrammars$Chart", name := "priceOfWhole", desc := "(I)I" } : Jvm.MethodName) "ChordGrammars") ∈ wN := kN (i := 615) (by decide +kernel) rfl
theorem k_617 : (Jvm.Cond.instanceMethod ({ cls := "ChordGrammars$Chart", name := "priceOfWhole", desc := "(I)I" } : Jvm.MethodName)) ∈ wA := kA (i := 617) (by decide +kernel) rfl
theorem k_618 : (Jvm.Cond.code ({ cls := "ChordGrammars$Chart", name := "priceOfWhole", desc := "(I)I" } : Jvm.MethodName) prog_2_method_9_code (2 : Nat) (Option.some Jvm.ClassFile.FieldType.int)) ∈ wA := kA (i := 618) (by decide +kernel) rfl
theorem k_619 : (Jvm.Cond.methodLink "ChordGrammarsLaw" (72 : Nat) ({ cls := "ChordGrammars", name := "node", desc := "(III)I" } : Jvm.MethodName)) ∈ wA := kA (i := 619) (by decide +kernel) rfl
theorem k_620 : (Jvm.Cond.instanceMethod ({ cls := "ChordGrammars", name := "node", desc := "(III)I" } : Jvm.MethodName)) ∈ wA := kA (i := 620) (by decide +kernel) rfl
theorem k_621 : (Jvm.Cond.selects "ChordGrammars" ({ cls := "ChordGrammars", name := "node", desc := "(III)I" } : Jvm.MethodName) ({ cls := "ChordGrammars", name := "node", desc := "(III)I" } : Jvm.MethodName)) ∈ wA := kA (i := 621) (by decide +kernel) rfl
theorem k_622 : (Jvm.Cond.code ({ cls := "ChordGrammars", name := "node", desc := "(III)I" } : Jvm.MethodName) prog_1_method_13_code (4 : Nat) (Option.some Jvm.ClassFile.FieldType.int)) ∈ wA := kA (i := 622) (by decide +kernel) rfl
theorem k_623 : (Jvm.Cond.methodLink "ChordGrammars" (142 : Nat) ({ cls := "ChordGrammars", name := "treeOf", desc := "(I)LChordGrammars$Tree;" } : Jvm.MethodName)) ∈ wA := kA (i := 623) (by decide +kernel) rfl
theorem k_625 : (Jvm.Cond.instanceMethod ({ cls := "ChordGrammars", name := "treeOf", desc := "(I)LChordGrammars$Tree;" } : Jvm.MethodName)) ∈ wA := kA (i := 625) (by decide +kernel) rfl
theorem k_626 : (Jvm.Cond.code ({ cls := "ChordGrammars", name := "treeOf", desc := "(I)LChordGrammars$Tree;" } : Jvm.MethodName) prog_1_method_21_code (2 : Nat) (Option.some (Jvm.ClassFile.FieldType.object "ChordGrammars$Tree"))) ∈ wA := kA (i := 626) (by decide +kernel) rfl
theorem kn_627 : (Jvm.Cond.methodLinkNest "ChordGrammars" (195 : Nat) ({ cls := "ChordGrammars$Tree", name := "walk", desc := "(LChordGrammars$Chart;I)V" } : Jvm.MethodName) "ChordGrammars") ∈ wN := kN (i := 627) (by decide +kernel) rfl
theorem k_629 : (Jvm.Cond.instanceMethod ({ cls := "ChordGrammars$Tree", name := "walk", desc := "(LChordGrammars$Chart;I)V" } : Jvm.MethodName)) ∈ wA := kA (i := 629) (by decide +kernel) rfl
theorem k_630 : (Jvm.Cond.code ({ cls := "ChordGrammars$Tree", name := "walk", desc := "(LChordGrammars$Chart;I)V" } : Jvm.MethodName) prog_10_method_2_code (4 : Nat) (Option.none : Option Jvm.ClassFile.FieldType)) ∈ wA := kA (i := 630) (by decide +kernel) rfl
theorem k_631 : (Jvm.Cond.methodLink "ChordGrammars$Tree" (66 : Nat) ({ cls := "ChordGrammars$Tree", name := "push", desc := "(IIII)V" } : Jvm.MethodName)) ∈ wA := kA (i := 631) (by decide +kernel) rfl
theorem k_633 : (Jvm.Cond.instanceMethod ({ cls := "ChordGrammars$Tree", name := "push", desc := "(IIII)V" } : Jvm.MethodName)) ∈ wA := kA (i := 633) (by decide +kernel) rfl
theorem k_634 : (Jvm.Cond.code ({ cls := "ChordGrammars$Tree", name := "push", desc := "(IIII)V" } : Jvm.MethodName) prog_10_method_5_code (5 : Nat) (Option.none : Option Jvm.ClassFile.FieldType)) ∈ wA := kA (i := 634) (by decide +kernel) rfl
theorem k_635 : (Jvm.Cond.methodLink "ChordGrammars$Tree" (70 : Nat) ({ cls := "ChordGrammars$Tree", name := "visit", desc := "(LChordGrammars$Chart;II)V" } : Jvm.MethodName)) ∈ wA := kA (i := 635) (by decide +kernel) rfl
theorem k_637 : (Jvm.Cond.instanceMethod ({ cls := "ChordGrammars$Tree", name := "visit", desc := "(LChordGrammars$Chart;II)V" } : Jvm.MethodName)) ∈ wA := kA (i := 637) (by decide +kernel) rfl
theorem k_638 : (Jvm.Cond.code ({ cls := "ChordGrammars$Tree", name := "visit", desc := "(LChordGrammars$Chart;II)V" } : Jvm.MethodName) prog_10_method_3_code (9 : Nat) (Option.none : Option Jvm.ClassFile.FieldType)) ∈ wA := kA (i := 638) (by decide +kernel) rfl
theorem kn_639 : (Jvm.Cond.methodLinkNest "ChordGrammars$Tree" (74 : Nat) ({ cls := "ChordGrammars$Chart", name := "chordOf", desc := "(II)I" } : Jvm.MethodName) "ChordGrammars") ∈ wN := kN (i := 639) (by decide +kernel) rfl
theorem kn_640 : (Jvm.Cond.methodLinkNest "ChordGrammars$Tree" (78 : Nat) ({ cls := "ChordGrammars$Chart", name := "sizeOf", desc := "(III)I" } : Jvm.MethodName) "ChordGrammars") ∈ wN := kN (i := 640) (by decide +kernel) rfl
theorem kn_641 : (Jvm.Cond.methodLinkNest "ChordGrammars$Tree" (82 : Nat) ({ cls := "ChordGrammars$Chart", name := "entryAt", desc := "(IIII)J" } : Jvm.MethodName) "ChordGrammars") ∈ wN := kN (i := 641) (by decide +kernel) rfl
theorem kn_642 : (Jvm.Cond.methodLinkNest "ChordGrammars$Tree" (86 : Nat) ({ cls := "ChordGrammars$Chart", name := "ruleOf", desc := "(J)I" } : Jvm.MethodName) "ChordGrammars") ∈ wN := kN (i := 642) (by decide +kernel) rfl
theorem k_643 : (Jvm.Cond.static ({ cls := "ChordGrammars$Chart", name := "ruleOf", desc := "(J)I" } : Jvm.MethodName)) ∈ wA := kA (i := 643) (by decide +kernel) rfl
theorem k_644 : (Jvm.Cond.code ({ cls := "ChordGrammars$Chart", name := "ruleOf", desc := "(J)I" } : Jvm.MethodName) prog_2_method_20_code (2 : Nat) (Option.some Jvm.ClassFile.FieldType.int)) ∈ wA := kA (i := 644) (by decide +kernel) rfl
theorem k_645 : (Jvm.Cond.methodLink "ChordGrammars$Tree" (90 : Nat) ({ cls := "ChordGrammars$Tree", name := "pushParts", desc := "(LChordGrammars$Grammar;JII)V" } : Jvm.MethodName)) ∈ wA := kA (i := 645) (by decide +kernel) rfl
theorem k_647 : (Jvm.Cond.instanceMethod ({ cls := "ChordGrammars$Tree", name := "pushParts", desc := "(LChordGrammars$Grammar;JII)V" } : Jvm.MethodName)) ∈ wA := kA (i := 647) (by decide +kernel) rfl
theorem k_648 : (Jvm.Cond.code ({ cls := "ChordGrammars$Tree", name := "pushParts", desc := "(LChordGrammars$Grammar;JII)V" } : Jvm.MethodName) prog_10_method_4_code (8 : Nat) (Option.none : Option Jvm.ClassFile.FieldType)) ∈ wA := kA (i := 648) (by decide +kernel) rfl
theorem kn_649 : (Jvm.Cond.methodLinkNest "ChordGrammars$Tree" (96 : Nat) ({ cls := "ChordGrammars$Chart", name := "partOf", desc := "(J)I" } : Jvm.MethodName) "ChordGrammars") ∈ wN := kN (i := 649) (by decide +kernel) rfl
theorem k_650 : (Jvm.Cond.static ({ cls := "ChordGrammars$Chart", name := "partOf", desc := "(J)I" } : Jvm.MethodName)) ∈ wA := kA (i := 650) (by decide +kernel) rfl
theorem k_651 : (Jvm.Cond.code ({ cls := "ChordGrammars$Chart", name := "partOf", desc := "(J)I" } : Jvm.MethodName) prog_2_method_21_code (2 : Nat) (Option.some Jvm.ClassFile.FieldType.int)) ∈ wA := kA (i := 651) (by decide +kernel) rfl
theorem kn_652 : (Jvm.Cond.methodLinkNest "ChordGrammars$Tree" (105 : Nat) ({ cls := "ChordGrammars$Chart", name := "rankOneOf", desc := "(J)I" } : Jvm.MethodName) "ChordGrammars") ∈ wN := kN (i := 652) (by decide +kernel) rfl
theorem k_653 : (Jvm.Cond.static ({ cls := "ChordGrammars$Chart", name := "rankOneOf", desc := "(J)I" } : Jvm.MethodName)) ∈ wA := kA (i := 653) (by decide +kernel) rfl
theorem k_654 : (Jvm.Cond.code ({ cls := "ChordGrammars$Chart", name := "rankOneOf", desc := "(J)I" } : Jvm.MethodName) prog_2_method_22_code (2 : Nat) (Option.some Jvm.ClassFile.FieldType.int)) ∈ wA := kA (i := 654) (by decide +kernel) rfl
theorem kn_655 : (Jvm.Cond.methodLinkNest "ChordGrammars$Tree" (108 : Nat) ({ cls := "ChordGrammars$Chart", name := "rankTwoOf", desc := "(J)I" } : Jvm.MethodName) "ChordGrammars") ∈ wN := kN (i := 655) (by decide +kernel) rfl
theorem k_656 : (Jvm.Cond.static ({ cls := "ChordGrammars$Chart", name := "rankTwoOf", desc := "(J)I" } : Jvm.MethodName)) ∈ wA := kA (i := 656) (by decide +kernel) rfl
theorem k_657 : (Jvm.Cond.code ({ cls := "ChordGrammars$Chart", name := "rankTwoOf", desc := "(J)I" } : Jvm.MethodName) prog_2_method_23_code (2 : Nat) (Option.some Jvm.ClassFile.FieldType.int)) ∈ wA := kA (i := 657) (by decide +kernel) rfl
theorem k_658 : (Jvm.Cond.methodLink "ChordGrammarsLaw" (76 : Nat) ({ cls := "ChordGrammars", name := "nodes", desc := "(I)I" } : Jvm.MethodName)) ∈ wA := kA (i := 658) (by decide +kernel) rfl
theorem k_659 : (Jvm.Cond.instanceMethod ({ cls := "ChordGrammars", name := "nodes", desc := "(I)I" } : Jvm.MethodName)) ∈ wA := kA (i := 659) (by decide +kernel) rfl
theorem k_660 : (Jvm.Cond.selects "ChordGrammars" ({ cls := "ChordGrammars", name := "nodes", desc := "(I)I" } : Jvm.MethodName) ({ cls := "ChordGrammars", name := "nodes", desc := "(I)I" } : Jvm.MethodName)) ∈ wA := kA (i := 660) (by decide +kernel) rfl
theorem k_661 : (Jvm.Cond.code ({ cls := "ChordGrammars", name := "nodes", desc := "(I)I" } : Jvm.MethodName) prog_1_method_14_code (2 : Nat) (Option.some Jvm.ClassFile.FieldType.int)) ∈ wA := kA (i := 661) (by decide +kernel) rfl
theorem k_662 : (Jvm.Cond.methodLink "ChordGrammarsLaw" (80 : Nat) ({ cls := "ChordGrammars", name := "chord", desc := "(II)I" } : Jvm.MethodName)) ∈ wA := kA (i := 662) (by decide +kernel) rfl
theorem k_663 : (Jvm.Cond.instanceMethod ({ cls := "ChordGrammars", name := "chord", desc := "(II)I" } : Jvm.MethodName)) ∈ wA := kA (i := 663) (by decide +kernel) rfl
theorem k_664 : (Jvm.Cond.selects "ChordGrammars" ({ cls := "ChordGrammars", name := "chord", desc := "(II)I" } : Jvm.MethodName) ({ cls := "ChordGrammars", name := "chord", desc := "(II)I" } : Jvm.MethodName)) ∈ wA := kA (i := 664) (by decide +kernel) rfl
theorem k_665 : (Jvm.Cond.code ({ cls := "ChordGrammars", name := "chord", desc := "(II)I" } : Jvm.MethodName) prog_1_method_15_code (3 : Nat) (Option.some Jvm.ClassFile.FieldType.int)) ∈ wA := kA (i := 665) (by decide +kernel) rfl
theorem kn_666 : (Jvm.Cond.methodLinkNest "ChordGrammars" (158 : Nat) ({ cls := "ChordGrammars$Chart", name := "hasSlot", desc := "(I)Z" } : Jvm.MethodName) "ChordGrammars") ∈ wN := kN (i := 666) (by decide +kernel) rfl
theorem k_668 : (Jvm.Cond.instanceMethod ({ cls := "ChordGrammars$Chart", name := "hasSlot", desc := "(I)Z" } : Jvm.MethodName)) ∈ wA := kA (i := 668) (by decide +kernel) rfl
theorem k_669 : (Jvm.Cond.code ({ cls := "ChordGrammars$Chart", name := "hasSlot", desc := "(I)Z" } : Jvm.MethodName) prog_2_method_12_code (2 : Nat) (Option.some Jvm.ClassFile.FieldType.boolean)) ∈ wA := kA (i := 669) (by decide +kernel) rfl
theorem k_670 : (Jvm.Cond.methodLink "ChordGrammarsLaw" (85 : Nat) ({ cls := "ChordGrammars", name := "cadence", desc := "(I)I" } : Jvm.MethodName)) ∈ wA := kA (i := 670) (by decide +kernel) rfl
theorem k_671 : (Jvm.Cond.instanceMethod ({ cls := "ChordGrammars", name := "cadence", desc := "(I)I" } : Jvm.MethodName)) ∈ wA := kA (i := 671) (by decide +kernel) rfl
theorem k_672 : (Jvm.Cond.selects "ChordGrammars" ({ cls := "ChordGrammars", name := "cadence", desc := "(I)I" } : Jvm.MethodName) ({ cls := "ChordGrammars", name := "cadence", desc := "(I)I" } : Jvm.MethodName)) ∈ wA := kA (i := 672) (by decide +kernel) rfl
theorem k_673 : (Jvm.Cond.code ({ cls := "ChordGrammars", name := "cadence", desc := "(I)I" } : Jvm.MethodName) prog_1_method_16_code (2 : Nat) (Option.some Jvm.ClassFile.FieldType.int)) ∈ wA := kA (i := 673) (by decide +kernel) rfl
theorem kn_674 : (Jvm.Cond.methodLinkNest "ChordGrammars" (166 : Nat) ({ cls := "ChordGrammars$Tree", name := "degreeAt", desc := "(I)I" } : Jvm.MethodName) "ChordGrammars") ∈ wN := kN (i := 674) (by decide +kernel) rfl
theorem k_676 : (Jvm.Cond.instanceMethod ({ cls := "ChordGrammars$Tree", name := "degreeAt", desc := "(I)I" } : Jvm.MethodName)) ∈ wA := kA (i := 676) (by decide +kernel) rfl
theorem k_677 : (Jvm.Cond.code ({ cls := "ChordGrammars$Tree", name := "degreeAt", desc := "(I)I" } : Jvm.MethodName) prog_10_method_6_code (2 : Nat) (Option.some Jvm.ClassFile.FieldType.int)) ∈ wA := kA (i := 677) (by decide +kernel) rfl
theorem k_678 : (Jvm.Cond.methodLink "ChordGrammars" (169 : Nat) ({ cls := "ChordGrammars", name := "ending", desc := "(II)I" } : Jvm.MethodName)) ∈ wA := kA (i := 678) (by decide +kernel) rfl
theorem k_679 : (Jvm.Cond.static ({ cls := "ChordGrammars", name := "ending", desc := "(II)I" } : Jvm.MethodName)) ∈ wA := kA (i := 679) (by decide +kernel) rfl
theorem k_680 : (Jvm.Cond.code ({ cls := "ChordGrammars", name := "ending", desc := "(II)I" } : Jvm.MethodName) prog_1_method_23_code (2 : Nat) (Option.some Jvm.ClassFile.FieldType.int)) ∈ wA := kA (i := 680) (by decide +kernel) rfl
theorem k_681 : (Jvm.Cond.methodLink "ChordGrammarsLaw" (89 : Nat) ({ cls := "ChordGrammars", name := "melody", desc := "(II)I" } : Jvm.MethodName)) ∈ wA := kA (i := 681) (by decide +kernel) rfl
theorem k_682 : (Jvm.Cond.instanceMethod ({ cls := "ChordGrammars", name := "melody", desc := "(II)I" } : Jvm.MethodName)) ∈ wA := kA (i := 682) (by decide +kernel) rfl
theorem k_683 : (Jvm.Cond.selects "ChordGrammars" ({ cls := "ChordGrammars", name := "melody", desc := "(II)I" } : Jvm.MethodName) ({ cls := "ChordGrammars", name := "melody", desc := "(II)I" } : Jvm.MethodName)) ∈ wA := kA (i := 683) (by decide +kernel) rfl
theorem k_684 : (Jvm.Cond.code ({ cls := "ChordGrammars", name := "melody", desc := "(II)I" } : Jvm.MethodName) prog_1_method_17_code (5 : Nat) (Option.some Jvm.ClassFile.FieldType.int)) ∈ wA := kA (i := 684) (by decide +kernel) rfl
theorem kn_685 : (Jvm.Cond.methodLinkNest "ChordGrammars" (172 : Nat) ({ cls := "ChordGrammars$Chart", name := "pitchAt", desc := "(I)I" } : Jvm.MethodName) "ChordGrammars") ∈ wN := kN (i := 685) (by decide +kernel) rfl
theorem k_687 : (Jvm.Cond.instanceMethod ({ cls := "ChordGrammars$Chart", name := "pitchAt", desc := "(I)I" } : Jvm.MethodName)) ∈ wA := kA (i := 687) (by decide +kernel) rfl
theorem k_688 : (Jvm.Cond.code ({ cls := "ChordGrammars$Chart", name := "pitchAt", desc := "(I)I" } : Jvm.MethodName) prog_2_method_11_code (2 : Nat) (Option.some Jvm.ClassFile.FieldType.int)) ∈ wA := kA (i := 688) (by decide +kernel) rfl
theorem k_689 : (Jvm.Cond.methodLink "ChordGrammars$Chart" (127 : Nat) ({ cls := "ChordGrammars$Chart", name := "hasSlot", desc := "(I)Z" } : Jvm.MethodName)) ∈ wA := kA (i := 689) (by decide +kernel) rfl
theorem k_690 : (Jvm.Cond.methodLink "ChordGrammars" (175 : Nat) ({ cls := "ChordGrammars", name := "chord", desc := "(II)I" } : Jvm.MethodName)) ∈ wA := kA (i := 690) (by decide +kernel) rfl
theorem k_691 : (Jvm.Cond.methodLink "ChordGrammars" (178 : Nat) ({ cls := "ChordGrammars", name := "chordSet", desc := "(II)I" } : Jvm.MethodName)) ∈ wA := kA (i := 691) (by decide +kernel) rfl
theorem k_692 : (Jvm.Cond.methodLink "ChordGrammars" (181 : Nat) ({ cls := "ChordGrammars", name := "strangerNote", desc := "(III)I" } : Jvm.MethodName)) ∈ wA := kA (i := 692) (by decide +kernel) rfl
theorem k_693 : (Jvm.Cond.static ({ cls := "ChordGrammars", name := "strangerNote", desc := "(III)I" } : Jvm.MethodName)) ∈ wA := kA (i := 693) (by decide +kernel) rfl
theorem k_694 : (Jvm.Cond.code ({ cls := "ChordGrammars", name := "strangerNote", desc := "(III)I" } : Jvm.MethodName) prog_1_method_24_code (6 : Nat) (Option.some Jvm.ClassFile.FieldType.int)) ∈ wA := kA (i := 694) (by decide +kernel) rfl
theorem k_695 : (Jvm.Cond.methodLink "ChordGrammars" (202 : Nat) ({ cls := "ChordGrammars", name := "isStep", desc := "(I)Z" } : Jvm.MethodName)) ∈ wA := kA (i := 695) (by decide +kernel) rfl
theorem k_696 : (Jvm.Cond.static ({ cls := "ChordGrammars", name := "isStep", desc := "(I)Z" } : Jvm.MethodName)) ∈ wA := kA (i := 696) (by decide +kernel) rfl
theorem k_697 : (Jvm.Cond.code ({ cls := "ChordGrammars", name := "isStep", desc := "(I)Z" } : Jvm.MethodName) prog_1_method_25_code (1 : Nat) (Option.some Jvm.ClassFile.FieldType.boolean)) ∈ wA := kA (i := 697) (by decide +kernel) rfl
theorem k_698 : (Jvm.Cond.methodLink "ChordGrammars" (205 : Nat) ({ cls := "ChordGrammars", name := "isLeap", desc := "(I)Z" } : Jvm.MethodName)) ∈ wA := kA (i := 698) (by decide +kernel) rfl
theorem k_699 : (Jvm.Cond.static ({ cls := "ChordGrammars", name := "isLeap", desc := "(I)Z" } : Jvm.MethodName)) ∈ wA := kA (i := 699) (by decide +kernel) rfl
theorem k_700 : (Jvm.Cond.code ({ cls := "ChordGrammars", name := "isLeap", desc := "(I)Z" } : Jvm.MethodName) prog_1_method_26_code (1 : Nat) (Option.some Jvm.ClassFile.FieldType.boolean)) ∈ wA := kA (i := 700) (by decide +kernel) rfl
theorem k_701 : (Jvm.Cond.methodLink "ChordGrammarsLaw" (102 : Nat) ({ cls := "ChordGrammars", name := "told", desc := "(I)I" } : Jvm.MethodName)) ∈ wA := kA (i := 701) (by decide +kernel) rfl
theorem k_702 : (Jvm.Cond.instanceMethod ({ cls := "ChordGrammars", name := "told", desc := "(I)I" } : Jvm.MethodName)) ∈ wA := kA (i := 702) (by decide +kernel) rfl
theorem k_703 : (Jvm.Cond.selects "ChordGrammars" ({ cls := "ChordGrammars", name := "told", desc := "(I)I" } : Jvm.MethodName) ({ cls := "ChordGrammars", name := "told", desc := "(I)I" } : Jvm.MethodName)) ∈ wA := kA (i := 703) (by decide +kernel) rfl
theorem k_704 : (Jvm.Cond.code ({ cls := "ChordGrammars", name := "told", desc := "(I)I" } : Jvm.MethodName) prog_1_method_19_code (2 : Nat) (Option.some Jvm.ClassFile.FieldType.int)) ∈ wA := kA (i := 704) (by decide +kernel) rfl
theorem k_705 : (Jvm.Cond.methodLink "ChordGrammarsLaw" (93 : Nat) ({ cls := "ChordGrammarsLaw", name := "cell", desc := "(LChordGrammars;III[J)I" } : Jvm.MethodName)) ∈ wA := kA (i := 705) (by decide +kernel) rfl
theorem k_706 : (Jvm.Cond.static ({ cls := "ChordGrammarsLaw", name := "cell", desc := "(LChordGrammars;III[J)I" } : Jvm.MethodName)) ∈ wA := kA (i := 706) (by decide +kernel) rfl
theorem k_707 : (Jvm.Cond.codeWith ({ cls := "ChordGrammarsLaw", name := "cell", desc := "(LChordGrammars;III[J)I" } : Jvm.MethodName) method_3_code (6 : Nat) (Option.some Jvm.ClassFile.FieldType.int) [((0 : Nat), (11 : Nat), (14 : Nat), (13 : Nat))]) ∈ wA := kA (i := 707) (by decide +kernel) rfl
theorem k_708 : (Jvm.Cond.classLink "ChordGrammarsLaw" (13 : Nat) "java/lang/ArrayIndexOutOfBoundsException") ∈ wA := kA (i := 708) (by decide +kernel) rfl
theorem k_709 : (Jvm.Cond.methodLink "ChordGrammarsLaw" (7 : Nat) ({ cls := "ChordGrammars", name := "cell", desc := "(III)J" } : Jvm.MethodName)) ∈ wA := kA (i := 709) (by decide +kernel) rfl
theorem k_710 : (Jvm.Cond.instanceMethod ({ cls := "ChordGrammars", name := "cell", desc := "(III)J" } : Jvm.MethodName)) ∈ wA := kA (i := 710) (by decide +kernel) rfl
theorem k_711 : (Jvm.Cond.selects "ChordGrammars" ({ cls := "ChordGrammars", name := "cell", desc := "(III)J" } : Jvm.MethodName) ({ cls := "ChordGrammars", name := "cell", desc := "(III)J" } : Jvm.MethodName)) ∈ wA := kA (i := 711) (by decide +kernel) rfl
theorem k_712 : (Jvm.Cond.code ({ cls := "ChordGrammars", name := "cell", desc := "(III)J" } : Jvm.MethodName) prog_1_method_18_code (4 : Nat) (Option.some Jvm.ClassFile.FieldType.long)) ∈ wA := kA (i := 712) (by decide +kernel) rfl
theorem k_713 : (Jvm.Cond.classLink "ChordGrammars" (184 : Nat) "java/lang/ArrayIndexOutOfBoundsException") ∈ wA := kA (i := 713) (by decide +kernel) rfl
theorem k_714 : (Jvm.Cond.instantiable "java/lang/ArrayIndexOutOfBoundsException" (6 : Nat)) ∈ wA := kA (i := 714) (by decide +kernel) rfl
theorem kn_715 : (Jvm.Cond.castable "java/lang/ArrayIndexOutOfBoundsException" "java/lang/ArrayIndexOutOfBoundsException") ∈ wN := kN (i := 715) (by decide +kernel) rfl
theorem kn_716 : (Jvm.Cond.declares ({ cls := "java/lang/IndexOutOfBoundsException", name := "<init>", desc := "()V" } : Jvm.MethodName)) ∈ wN := kN (i := 716) (by decide +kernel) rfl
theorem kn_717 : (Jvm.Cond.declares ({ cls := "java/lang/IndexOutOfBoundsException", name := "<init>", desc := "(Ljava/lang/String;)V" } : Jvm.MethodName)) ∈ wN := kN (i := 717) (by decide +kernel) rfl
theorem kn_718 : (Jvm.Cond.declares ({ cls := "java/lang/RuntimeException", name := "<init>", desc := "()V" } : Jvm.MethodName)) ∈ wN := kN (i := 718) (by decide +kernel) rfl
theorem kn_719 : (Jvm.Cond.declares ({ cls := "java/lang/RuntimeException", name := "<init>", desc := "(Ljava/lang/String;)V" } : Jvm.MethodName)) ∈ wN := kN (i := 719) (by decide +kernel) rfl
theorem kn_720 : (Jvm.Cond.declares ({ cls := "java/lang/Exception", name := "<init>", desc := "()V" } : Jvm.MethodName)) ∈ wN := kN (i := 720) (by decide +kernel) rfl
theorem kn_721 : (Jvm.Cond.declares ({ cls := "java/lang/Exception", name := "<init>", desc := "(Ljava/lang/String;)V" } : Jvm.MethodName)) ∈ wN := kN (i := 721) (by decide +kernel) rfl
theorem kn_722 : (Jvm.Cond.declares ({ cls := "java/lang/Throwable", name := "<init>", desc := "()V" } : Jvm.MethodName)) ∈ wN := kN (i := 722) (by decide +kernel) rfl
theorem kn_723 : (Jvm.Cond.declares ({ cls := "java/lang/Throwable", name := "<init>", desc := "(Ljava/lang/String;)V" } : Jvm.MethodName)) ∈ wN := kN (i := 723) (by decide +kernel) rfl
theorem k_724 : (Jvm.Cond.selects "java/lang/ArrayIndexOutOfBoundsException" ({ cls := "java/lang/Throwable", name := "fillInStackTrace", desc := "(I)Ljava/lang/Throwable;" } : Jvm.MethodName) ({ cls := "java/lang/Throwable", name := "fillInStackTrace", desc := "(I)Ljava/lang/Throwable;" } : Jvm.MethodName)) ∈ wA := kA (i := 724) (by decide +kernel) rfl
theorem k_725 : (Jvm.Cond.selects "java/lang/ArrayIndexOutOfBoundsException" ({ cls := "java/lang/Throwable", name := "fillInStackTrace", desc := "()Ljava/lang/Throwable;" } : Jvm.MethodName) ({ cls := "java/lang/Throwable", name := "fillInStackTrace", desc := "()Ljava/lang/Throwable;" } : Jvm.MethodName)) ∈ wA := kA (i := 725) (by decide +kernel) rfl
theorem k_726 : (Jvm.Cond.lays "java/lang/ArrayIndexOutOfBoundsException" "java/lang/Throwable" "cause" "Ljava/lang/Throwable;") ∈ wA := kA (i := 726) (by decide +kernel) rfl
theorem k_727 : (Jvm.Cond.lays "java/lang/Throwable" "java/lang/Throwable" "cause" "Ljava/lang/Throwable;") ∈ wA := kA (i := 727) (by decide +kernel) rfl
theorem k_728 : (Jvm.Cond.lays "java/lang/ArrayIndexOutOfBoundsException" "java/lang/Throwable" "stackTrace" "[Ljava/lang/StackTraceElement;") ∈ wA := kA (i := 728) (by decide +kernel) rfl
theorem k_729 : (Jvm.Cond.lays "java/lang/Throwable" "java/lang/Throwable" "stackTrace" "[Ljava/lang/StackTraceElement;") ∈ wA := kA (i := 729) (by decide +kernel) rfl
theorem k_730 : (Jvm.Cond.lays "java/lang/ArrayIndexOutOfBoundsException" "java/lang/Throwable" "suppressedExceptions" "Ljava/util/List;") ∈ wA := kA (i := 730) (by decide +kernel) rfl
theorem k_731 : (Jvm.Cond.lays "java/lang/Throwable" "java/lang/Throwable" "suppressedExceptions" "Ljava/util/List;") ∈ wA := kA (i := 731) (by decide +kernel) rfl
theorem k_732 : (Jvm.Cond.lays "java/lang/ArrayIndexOutOfBoundsException" "java/lang/Throwable" "detailMessage" "Ljava/lang/String;") ∈ wA := kA (i := 732) (by decide +kernel) rfl
theorem k_733 : (Jvm.Cond.lays "java/lang/Throwable" "java/lang/Throwable" "detailMessage" "Ljava/lang/String;") ∈ wA := kA (i := 733) (by decide +kernel) rfl
theorem k_734 : (Jvm.Cond.lays "java/lang/ArrayIndexOutOfBoundsException" "java/lang/Throwable" "backtrace" "Ljava/lang/Object;") ∈ wA := kA (i := 734) (by decide +kernel) rfl
theorem k_735 : (Jvm.Cond.lays "java/lang/Throwable" "java/lang/Throwable" "backtrace" "Ljava/lang/Object;") ∈ wA := kA (i := 735) (by decide +kernel) rfl
theorem k_736 : (Jvm.Cond.fieldLink "java/lang/Throwable" (198 : Nat) "java/lang/Throwable" "backtrace" "Ljava/lang/Object;") ∈ wA := kA (i := 736) (by decide +kernel) rfl
theorem k_737 : (Jvm.Cond.superclass "java/lang/Throwable" "java/lang/Object") ∈ wA := kA (i := 737) (by decide +kernel) rfl
theorem k_738 : (Jvm.Cond.instanceMethod ({ cls := "java/lang/Throwable", name := "<init>", desc := "()V" } : Jvm.MethodName)) ∈ wA := kA (i := 738) (by decide +kernel) rfl
theorem k_739 : (Jvm.Cond.code ({ cls := "java/lang/Throwable", name := "<init>", desc := "()V" } : Jvm.MethodName) prog_24_method_1_code (1 : Nat) (Option.none : Option Jvm.ClassFile.FieldType)) ∈ wA := kA (i := 739) (by decide +kernel) rfl
theorem k_740 : (Jvm.Cond.methodLink "java/lang/Throwable" (1 : Nat) ({ cls := "java/lang/Object", name := "<init>", desc := "()V" } : Jvm.MethodName)) ∈ wA := kA (i := 740) (by decide +kernel) rfl
theorem k_741 : (Jvm.Cond.fieldLink "java/lang/Throwable" (13 : Nat) "java/lang/Throwable" "UNASSIGNED_STACK" "[Ljava/lang/StackTraceElement;") ∈ wA := kA (i := 741) (by decide +kernel) rfl
theorem k_743 : (Jvm.Cond.fieldLink "java/lang/Throwable" (20 : Nat) "java/lang/Throwable" "SUPPRESSED_SENTINEL" "Ljava/util/List;") ∈ wA := kA (i := 743) (by decide +kernel) rfl
theorem k_745 : (Jvm.Cond.methodLink "java/lang/Throwable" (27 : Nat) ({ cls := "java/lang/Throwable", name := "fillInStackTrace", desc := "()Ljava/lang/Throwable;" } : Jvm.MethodName)) ∈ wA := kA (i := 745) (by decide +kernel) rfl
theorem k_746 : (Jvm.Cond.instanceMethod ({ cls := "java/lang/Throwable", name := "fillInStackTrace", desc := "()Ljava/lang/Throwable;" } : Jvm.MethodName)) ∈ wA := kA (i := 746) (by decide +kernel) rfl
theorem k_748 : (Jvm.Cond.codeSync ({ cls := "java/lang/Throwable", name := "fillInStackTrace", desc := "()Ljava/lang/Throwable;" } : Jvm.MethodName) prog_24_method_18_code (1 : Nat) (Option.some (Jvm.ClassFile.FieldType.object "java/lang/Throwable"))) ∈ wA := kA (i := 748) (by decide +kernel) rfl
theorem k_749 : (Jvm.Cond.methodLink "java/lang/Throwable" (202 : Nat) ({ cls := "java/lang/Throwable", name := "fillInStackTrace", desc := "(I)Ljava/lang/Throwable;" } : Jvm.MethodName)) ∈ wA := kA (i := 749) (by decide +kernel) rfl
theorem k_751 : (Jvm.Cond.instanceMethod ({ cls := "java/lang/Throwable", name := "fillInStackTrace", desc := "(I)Ljava/lang/Throwable;" } : Jvm.MethodName)) ∈ wA := kA (i := 751) (by decide +kernel) rfl
theorem k_752 : (Jvm.Cond.instantiable "java/lang/Throwable" (6 : Nat)) ∈ wA := kA (i := 752) (by decide +kernel) rfl
theorem k_753 : (Jvm.Cond.native ({ cls := "java/lang/Throwable", name := "fillInStackTrace", desc := "(I)Ljava/lang/Throwable;" } : Jvm.MethodName)) ∈ wA := kA (i := 753) (by decide +kernel) rfl
theorem k_755 : (Jvm.Cond.methodLink "ChordGrammars" (188 : Nat) ({ cls := "java/lang/ArrayIndexOutOfBoundsException", name := "<init>", desc := "(Ljava/lang/String;)V" } : Jvm.MethodName)) ∈ wA := kA (i := 755) (by decide +kernel) rfl
theorem k_756 : (Jvm.Cond.instanceMethod ({ cls := "java/lang/ArrayIndexOutOfBoundsException", name := "<init>", desc := "(Ljava/lang/String;)V" } : Jvm.MethodName)) ∈ wA := kA (i := 756) (by decide +kernel) rfl
theorem k_757 : (Jvm.Cond.code ({ cls := "java/lang/ArrayIndexOutOfBoundsException", name := "<init>", desc := "(Ljava/lang/String;)V" } : Jvm.MethodName) prog_13_method_2_code (2 : Nat) (Option.none : Option Jvm.ClassFile.FieldType)) ∈ wA := kA (i := 757) (by decide +kernel) rfl
theorem k_758 : (Jvm.Cond.methodLink "java/lang/ArrayIndexOutOfBoundsException" (7 : Nat) ({ cls := "java/lang/IndexOutOfBoundsException", name := "<init>", desc := "(Ljava/lang/String;)V" } : Jvm.MethodName)) ∈ wA := kA (i := 758) (by decide +kernel) rfl
theorem k_759 : (Jvm.Cond.instanceMethod ({ cls := "java/lang/IndexOutOfBoundsException", name := "<init>", desc := "(Ljava/lang/String;)V" } : Jvm.MethodName)) ∈ wA := kA (i := 759) (by decide +kernel) rfl
theorem k_760 : (Jvm.Cond.code ({ cls := "java/lang/IndexOutOfBoundsException", name := "<init>", desc := "(Ljava/lang/String;)V" } : Jvm.MethodName) prog_16_method_2_code (2 : Nat) (Option.none : Option Jvm.ClassFile.FieldType)) ∈ wA := kA (i := 760) (by decide +kernel) rfl
theorem k_761 : (Jvm.Cond.methodLink "java/lang/IndexOutOfBoundsException" (7 : Nat) ({ cls := "java/lang/RuntimeException", name := "<init>", desc := "(Ljava/lang/String;)V" } : Jvm.MethodName)) ∈ wA := kA (i := 761) (by decide +kernel) rfl
theorem k_762 : (Jvm.Cond.instanceMethod ({ cls := "java/lang/RuntimeException", name := "<init>", desc := "(Ljava/lang/String;)V" } : Jvm.MethodName)) ∈ wA := kA (i := 762) (by decide +kernel) rfl
theorem k_763 : (Jvm.Cond.code ({ cls := "java/lang/RuntimeException", name := "<init>", desc := "(Ljava/lang/String;)V" } : Jvm.MethodName) prog_19_method_2_code (2 : Nat) (Option.none : Option Jvm.ClassFile.FieldType)) ∈ wA := kA (i := 763) (by decide +kernel) rfl
theorem k_764 : (Jvm.Cond.methodLink "java/lang/RuntimeException" (7 : Nat) ({ cls := "java/lang/Exception", name := "<init>", desc := "(Ljava/lang/String;)V" } : Jvm.MethodName)) ∈ wA := kA (i := 764) (by decide +kernel) rfl
theorem k_765 : (Jvm.Cond.instanceMethod ({ cls := "java/lang/Exception", name := "<init>", desc := "(Ljava/lang/String;)V" } : Jvm.MethodName)) ∈ wA := kA (i := 765) (by decide +kernel) rfl
theorem k_766 : (Jvm.Cond.code ({ cls := "java/lang/Exception", name := "<init>", desc := "(Ljava/lang/String;)V" } : Jvm.MethodName) prog_15_method_2_code (2 : Nat) (Option.none : Option Jvm.ClassFile.FieldType)) ∈ wA := kA (i := 766) (by decide +kernel) rfl
theorem k_767 : (Jvm.Cond.methodLink "java/lang/Exception" (7 : Nat) ({ cls := "java/lang/Throwable", name := "<init>", desc := "(Ljava/lang/String;)V" } : Jvm.MethodName)) ∈ wA := kA (i := 767) (by decide +kernel) rfl
theorem k_768 : (Jvm.Cond.instanceMethod ({ cls := "java/lang/Throwable", name := "<init>", desc := "(Ljava/lang/String;)V" } : Jvm.MethodName)) ∈ wA := kA (i := 768) (by decide +kernel) rfl
theorem k_769 : (Jvm.Cond.code ({ cls := "java/lang/Throwable", name := "<init>", desc := "(Ljava/lang/String;)V" } : Jvm.MethodName) prog_24_method_2_code (2 : Nat) (Option.none : Option Jvm.ClassFile.FieldType)) ∈ wA := kA (i := 769) (by decide +kernel) rfl
theorem k_771 : (Jvm.Cond.fieldLink "java/lang/Throwable" (31 : Nat) "java/lang/Throwable" "detailMessage" "Ljava/lang/String;") ∈ wA := kA (i := 771) (by decide +kernel) rfl
theorem k_772 : (Jvm.Cond.fieldLink "java/lang/Throwable" (7 : Nat) "java/lang/Throwable" "cause" "Ljava/lang/Throwable;") ∈ wA := kA (i := 772) (by decide +kernel) rfl
theorem k_773 : (Jvm.Cond.fieldLink "java/lang/Throwable" (17 : Nat) "java/lang/Throwable" "stackTrace" "[Ljava/lang/StackTraceElement;") ∈ wA := kA (i := 773) (by decide +kernel) rfl
theorem k_774 : (Jvm.Cond.fieldLink "java/lang/Throwable" (24 : Nat) "java/lang/Throwable" "suppressedExceptions" "Ljava/util/List;") ∈ wA := kA (i := 774) (by decide +kernel) rfl
theorem k_779 : (Jvm.Cond.lays "java/lang/ArrayIndexOutOfBoundsException" "java/lang/Throwable" "depth" "I") ∈ wA := kA (i := 779) (by decide +kernel) rfl
theorem k_782 : (Jvm.Cond.superclass "java/lang/ArrayIndexOutOfBoundsException" "java/lang/IndexOutOfBoundsException") ∈ wA := kA (i := 782) (by decide +kernel) rfl
theorem kn_783 : (Jvm.Cond.methodLinkNest "ChordGrammars" (191 : Nat) ({ cls := "ChordGrammars$Chart", name := "countOf", desc := "(III)J" } : Jvm.MethodName) "ChordGrammars") ∈ wN := kN (i := 783) (by decide +kernel) rfl
theorem k_784 : (Jvm.Cond.classLink "ChordGrammarsLaw" (16 : Nat) "ChordGrammarsModel") ∈ wA := kA (i := 784) (by decide +kernel) rfl
theorem k_785 : (Jvm.Cond.instantiable "ChordGrammarsModel" (48 : Nat)) ∈ wA := kA (i := 785) (by decide +kernel) rfl
theorem k_786 : (Jvm.Cond.methodLink "ChordGrammarsLaw" (18 : Nat) ({ cls := "ChordGrammarsModel", name := "<init>", desc := "()V" } : Jvm.MethodName)) ∈ wA := kA (i := 786) (by decide +kernel) rfl
theorem k_787 : (Jvm.Cond.instanceMethod ({ cls := "ChordGrammarsModel", name := "<init>", desc := "()V" } : Jvm.MethodName)) ∈ wA := kA (i := 787) (by decide +kernel) rfl
theorem k_788 : (Jvm.Cond.code ({ cls := "ChordGrammarsModel", name := "<init>", desc := "()V" } : Jvm.MethodName) prog_12_method_1_code (1 : Nat) (Option.none : Option Jvm.ClassFile.FieldType)) ∈ wA := kA (i := 788) (by decide +kernel) rfl
theorem k_789 : (Jvm.Cond.methodLink "ChordGrammarsModel" (1 : Nat) ({ cls := "java/lang/Object", name := "<init>", desc := "()V" } : Jvm.MethodName)) ∈ wA := kA (i := 789) (by decide +kernel) rfl
theorem k_790 : (Jvm.Cond.constant "ChordGrammarsModel" (84 : Nat) (234000 : Int32)) ∈ wA := kA (i := 790) (by decide +kernel) rfl
theorem k_791 : (Jvm.Cond.fieldLink "ChordGrammarsModel" (106 : Nat) "ChordGrammarsModel" "thrown" "I") ∈ wA := kA (i := 791) (by decide +kernel) rfl
theorem k_792 : (Jvm.Cond.fieldLink "ChordGrammarsModel" (110 : Nat) "ChordGrammarsModel" "tonic" "I") ∈ wA := kA (i := 792) (by decide +kernel) rfl
theorem k_793 : (Jvm.Cond.fieldLink "ChordGrammarsModel" (113 : Nat) "ChordGrammarsModel" "minor" "Z") ∈ wA := kA (i := 793) (by decide +kernel) rfl
theorem k_794 : (Jvm.Cond.fieldLink "ChordGrammarsModel" (7 : Nat) "ChordGrammarsModel" "costs" "[I") ∈ wA := kA (i := 794) (by decide +kernel) rfl
theorem k_795 : (Jvm.Cond.fieldLink "ChordGrammarsModel" (13 : Nat) "ChordGrammarsModel" "draft" "[I") ∈ wA := kA (i := 795) (by decide +kernel) rfl
theorem k_796 : (Jvm.Cond.fieldLink "ChordGrammarsModel" (117 : Nat) "ChordGrammarsModel" "drafted" "I") ∈ wA := kA (i := 796) (by decide +kernel) rfl
theorem k_797 : (Jvm.Cond.fieldLink "ChordGrammarsModel" (175 : Nat) "ChordGrammarsModel" "slots" "I") ∈ wA := kA (i := 797) (by decide +kernel) rfl
theorem k_798 : (Jvm.Cond.fieldLink "ChordGrammarsModel" (16 : Nat) "ChordGrammarsModel" "sets" "[I") ∈ wA := kA (i := 798) (by decide +kernel) rfl
theorem k_799 : (Jvm.Cond.fieldLink "ChordGrammarsModel" (19 : Nat) "ChordGrammarsModel" "basses" "[I") ∈ wA := kA (i := 799) (by decide +kernel) rfl
theorem k_800 : (Jvm.Cond.fieldLink "ChordGrammarsModel" (22 : Nat) "ChordGrammarsModel" "melodies" "[I") ∈ wA := kA (i := 800) (by decide +kernel) rfl
theorem k_801 : (Jvm.Cond.fieldLink "ChordGrammarsModel" (172 : Nat) "ChordGrammarsModel" "rules" "I") ∈ wA := kA (i := 801) (by decide +kernel) rfl
theorem k_802 : (Jvm.Cond.fieldLink "ChordGrammarsModel" (25 : Nat) "ChordGrammarsModel" "left" "[I") ∈ wA := kA (i := 802) (by decide +kernel) rfl
theorem k_803 : (Jvm.Cond.fieldLink "ChordGrammarsModel" (28 : Nat) "ChordGrammarsModel" "first" "[I") ∈ wA := kA (i := 803) (by decide +kernel) rfl
theorem k_804 : (Jvm.Cond.fieldLink "ChordGrammarsModel" (31 : Nat) "ChordGrammarsModel" "second" "[I") ∈ wA := kA (i := 804) (by decide +kernel) rfl
theorem k_805 : (Jvm.Cond.fieldLink "ChordGrammarsModel" (34 : Nat) "ChordGrammarsModel" "ruleCost" "[I") ∈ wA := kA (i := 805) (by decide +kernel) rfl
theorem k_806 : (Jvm.Cond.fieldLink "ChordGrammarsModel" (147 : Nat) "ChordGrammarsModel" "newRules" "I") ∈ wA := kA (i := 806) (by decide +kernel) rfl
theorem k_807 : (Jvm.Cond.fieldLink "ChordGrammarsModel" (37 : Nat) "ChordGrammarsModel" "newLeft" "[I") ∈ wA := kA (i := 807) (by decide +kernel) rfl
theorem k_808 : (Jvm.Cond.fieldLink "ChordGrammarsModel" (40 : Nat) "ChordGrammarsModel" "newFirst" "[I") ∈ wA := kA (i := 808) (by decide +kernel) rfl
theorem k_809 : (Jvm.Cond.fieldLink "ChordGrammarsModel" (43 : Nat) "ChordGrammarsModel" "newSecond" "[I") ∈ wA := kA (i := 809) (by decide +kernel) rfl
theorem k_810 : (Jvm.Cond.fieldLink "ChordGrammarsModel" (46 : Nat) "ChordGrammarsModel" "newCost" "[I") ∈ wA := kA (i := 810) (by decide +kernel) rfl
theorem k_811 : (Jvm.Cond.fieldLink "ChordGrammarsModel" (49 : Nat) "ChordGrammarsModel" "newPlace" "[I") ∈ wA := kA (i := 811) (by decide +kernel) rfl
theorem k_812 : (Jvm.Cond.fieldLink "ChordGrammarsModel" (122 : Nat) "ChordGrammarsModel" "place" "I") ∈ wA := kA (i := 812) (by decide +kernel) rfl
theorem k_813 : (Jvm.Cond.fieldLink "ChordGrammarsModel" (129 : Nat) "ChordGrammarsModel" "fault" "I") ∈ wA := kA (i := 813) (by decide +kernel) rfl
theorem k_814 : (Jvm.Cond.fieldLink "ChordGrammarsModel" (52 : Nat) "ChordGrammarsModel" "leads" "[Z") ∈ wA := kA (i := 814) (by decide +kernel) rfl
theorem k_815 : (Jvm.Cond.fieldLink "ChordGrammarsModel" (192 : Nat) "ChordGrammarsModel" "n" "I") ∈ wA := kA (i := 815) (by decide +kernel) rfl
theorem k_816 : (Jvm.Cond.fieldLink "ChordGrammarsModel" (216 : Nat) "ChordGrammarsModel" "parsedRules" "I") ∈ wA := kA (i := 816) (by decide +kernel) rfl
theorem k_817 : (Jvm.Cond.fieldLink "ChordGrammarsModel" (56 : Nat) "ChordGrammarsModel" "pLeft" "[I") ∈ wA := kA (i := 817) (by decide +kernel) rfl
theorem k_818 : (Jvm.Cond.fieldLink "ChordGrammarsModel" (59 : Nat) "ChordGrammarsModel" "pFirst" "[I") ∈ wA := kA (i := 818) (by decide +kernel) rfl
theorem k_819 : (Jvm.Cond.fieldLink "ChordGrammarsModel" (62 : Nat) "ChordGrammarsModel" "pSecond" "[I") ∈ wA := kA (i := 819) (by decide +kernel) rfl
theorem k_820 : (Jvm.Cond.fieldLink "ChordGrammarsModel" (65 : Nat) "ChordGrammarsModel" "pCost" "[I") ∈ wA := kA (i := 820) (by decide +kernel) rfl
theorem k_821 : (Jvm.Cond.fieldLink "ChordGrammarsModel" (68 : Nat) "ChordGrammarsModel" "pMelody" "[I") ∈ wA := kA (i := 821) (by decide +kernel) rfl
theorem k_822 : (Jvm.Cond.fieldLink "ChordGrammarsModel" (71 : Nat) "ChordGrammarsModel" "symbolChord" "[I") ∈ wA := kA (i := 822) (by decide +kernel) rfl
theorem k_823 : (Jvm.Cond.fieldLink "ChordGrammarsModel" (74 : Nat) "ChordGrammarsModel" "symbolCost" "[I") ∈ wA := kA (i := 823) (by decide +kernel) rfl
theorem k_824 : (Jvm.Cond.fieldLink "ChordGrammarsModel" (77 : Nat) "ChordGrammarsModel" "sizes" "[I") ∈ wA := kA (i := 824) (by decide +kernel) rfl
theorem k_825 : (Jvm.Cond.fieldLink "ChordGrammarsModel" (80 : Nat) "ChordGrammarsModel" "counts" "[J") ∈ wA := kA (i := 825) (by decide +kernel) rfl
theorem k_826 : (Jvm.Cond.fieldLink "ChordGrammarsModel" (85 : Nat) "ChordGrammarsModel" "listCost" "[I") ∈ wA := kA (i := 826) (by decide +kernel) rfl
theorem k_827 : (Jvm.Cond.fieldLink "ChordGrammarsModel" (88 : Nat) "ChordGrammarsModel" "listKey" "[I") ∈ wA := kA (i := 827) (by decide +kernel) rfl
theorem k_828 : (Jvm.Cond.fieldLink "ChordGrammarsModel" (91 : Nat) "ChordGrammarsModel" "turn" "[I") ∈ wA := kA (i := 828) (by decide +kernel) rfl
theorem k_829 : (Jvm.Cond.fieldLink "ChordGrammarsModel" (219 : Nat) "ChordGrammarsModel" "parsed" "Z") ∈ wA := kA (i := 829) (by decide +kernel) rfl
theorem k_830 : (Jvm.Cond.fieldLink "ChordGrammarsModel" (94 : Nat) "ChordGrammarsModel" "toItem" "[I") ∈ wA := kA (i := 830) (by decide +kernel) rfl
theorem k_831 : (Jvm.Cond.fieldLink "ChordGrammarsModel" (97 : Nat) "ChordGrammarsModel" "toFrom" "[I") ∈ wA := kA (i := 831) (by decide +kernel) rfl
theorem k_832 : (Jvm.Cond.fieldLink "ChordGrammarsModel" (100 : Nat) "ChordGrammarsModel" "toLast" "[I") ∈ wA := kA (i := 832) (by decide +kernel) rfl
theorem k_833 : (Jvm.Cond.fieldLink "ChordGrammarsModel" (103 : Nat) "ChordGrammarsModel" "toRank" "[I") ∈ wA := kA (i := 833) (by decide +kernel) rfl
theorem k_834 : (Jvm.Cond.fieldLink "ChordGrammarsModel" (247 : Nat) "ChordGrammarsModel" "waiting" "I") ∈ wA := kA (i := 834) (by decide +kernel) rfl
theorem k_835 : (Jvm.Cond.fieldLink "ChordGrammarsModel" (253 : Nat) "ChordGrammarsModel" "nodeItem" "I") ∈ wA := kA (i := 835) (by decide +kernel) rfl
theorem k_836 : (Jvm.Cond.fieldLink "ChordGrammarsModel" (256 : Nat) "ChordGrammarsModel" "nodeFrom" "I") ∈ wA := kA (i := 836) (by decide +kernel) rfl
theorem k_837 : (Jvm.Cond.fieldLink "ChordGrammarsModel" (259 : Nat) "ChordGrammarsModel" "nodeLast" "I") ∈ wA := kA (i := 837) (by decide +kernel) rfl
theorem k_838 : (Jvm.Cond.fieldLink "ChordGrammarsModel" (262 : Nat) "ChordGrammarsModel" "nodeRule" "I") ∈ wA := kA (i := 838) (by decide +kernel) rfl
theorem k_935 : (Jvm.Cond.superclass "ChordGrammarsModel" "java/lang/Object") ∈ wA := kA (i := 935) (by decide +kernel) rfl
theorem k_936 : (Jvm.Cond.arrayClass Jvm.ClassFile.FieldType.boolean) ∈ wA := kA (i := 936) (by decide +kernel) rfl
theorem k_937 : (Jvm.Cond.methodLink "ChordGrammarsLaw" (99 : Nat) ({ cls := "ChordGrammarsModel", name := "thrown", desc := "()I" } : Jvm.MethodName)) ∈ wA := kA (i := 937) (by decide +kernel) rfl
theorem k_938 : (Jvm.Cond.instanceMethod ({ cls := "ChordGrammarsModel", name := "thrown", desc := "()I" } : Jvm.MethodName)) ∈ wA := kA (i := 938) (by decide +kernel) rfl
theorem k_939 : (Jvm.Cond.selects "ChordGrammarsModel" ({ cls := "ChordGrammarsModel", name := "thrown", desc := "()I" } : Jvm.MethodName) ({ cls := "ChordGrammarsModel", name := "thrown", desc := "()I" } : Jvm.MethodName)) ∈ wA := kA (i := 939) (by decide +kernel) rfl
theorem k_940 : (Jvm.Cond.code ({ cls := "ChordGrammarsModel", name := "thrown", desc := "()I" } : Jvm.MethodName) prog_12_method_2_code (1 : Nat) (Option.some Jvm.ClassFile.FieldType.int)) ∈ wA := kA (i := 940) (by decide +kernel) rfl
theorem k_941 : (Jvm.Cond.methodLink "ChordGrammarsLaw" (23 : Nat) ({ cls := "ChordGrammarsModel", name := "key", desc := "(IZ)Z" } : Jvm.MethodName)) ∈ wA := kA (i := 941) (by decide +kernel) rfl
theorem k_942 : (Jvm.Cond.instanceMethod ({ cls := "ChordGrammarsModel", name := "key", desc := "(IZ)Z" } : Jvm.MethodName)) ∈ wA := kA (i := 942) (by decide +kernel) rfl
theorem k_943 : (Jvm.Cond.selects "ChordGrammarsModel" ({ cls := "ChordGrammarsModel", name := "key", desc := "(IZ)Z" } : Jvm.MethodName) ({ cls := "ChordGrammarsModel", name := "key", desc := "(IZ)Z" } : Jvm.MethodName)) ∈ wA := kA (i := 943) (by decide +kernel) rfl
theorem k_944 : (Jvm.Cond.code ({ cls := "ChordGrammarsModel", name := "key", desc := "(IZ)Z" } : Jvm.MethodName) prog_12_method_3_code (3 : Nat) (Option.some Jvm.ClassFile.FieldType.boolean)) ∈ wA := kA (i := 944) (by decide +kernel) rfl
theorem k_945 : (Jvm.Cond.methodLink "ChordGrammarsLaw" (28 : Nat) ({ cls := "ChordGrammarsModel", name := "cost", desc := "(II)Z" } : Jvm.MethodName)) ∈ wA := kA (i := 945) (by decide +kernel) rfl
theorem k_946 : (Jvm.Cond.instanceMethod ({ cls := "ChordGrammarsModel", name := "cost", desc := "(II)Z" } : Jvm.MethodName)) ∈ wA := kA (i := 946) (by decide +kernel) rfl
theorem k_947 : (Jvm.Cond.selects "ChordGrammarsModel" ({ cls := "ChordGrammarsModel", name := "cost", desc := "(II)Z" } : Jvm.MethodName) ({ cls := "ChordGrammarsModel", name := "cost", desc := "(II)Z" } : Jvm.MethodName)) ∈ wA := kA (i := 947) (by decide +kernel) rfl
theorem k_948 : (Jvm.Cond.code ({ cls := "ChordGrammarsModel", name := "cost", desc := "(II)Z" } : Jvm.MethodName) prog_12_method_4_code (3 : Nat) (Option.some Jvm.ClassFile.FieldType.boolean)) ∈ wA := kA (i := 948) (by decide +kernel) rfl
theorem k_949 : (Jvm.Cond.methodLink "ChordGrammarsLaw" (35 : Nat) ({ cls := "ChordGrammarsModel", name := "draft", desc := "(IJ)I" } : Jvm.MethodName)) ∈ wA := kA (i := 949) (by decide +kernel) rfl
theorem k_950 : (Jvm.Cond.instanceMethod ({ cls := "ChordGrammarsModel", name := "draft", desc := "(IJ)I" } : Jvm.MethodName)) ∈ wA := kA (i := 950) (by decide +kernel) rfl
theorem k_951 : (Jvm.Cond.selects "ChordGrammarsModel" ({ cls := "ChordGrammarsModel", name := "draft", desc := "(IJ)I" } : Jvm.MethodName) ({ cls := "ChordGrammarsModel", name := "draft", desc := "(IJ)I" } : Jvm.MethodName)) ∈ wA := kA (i := 951) (by decide +kernel) rfl
theorem k_952 : (Jvm.Cond.code ({ cls := "ChordGrammarsModel", name := "draft", desc := "(IJ)I" } : Jvm.MethodName) prog_12_method_5_code (5 : Nat) (Option.some Jvm.ClassFile.FieldType.int)) ∈ wA := kA (i := 952) (by decide +kernel) rfl
theorem k_953 : (Jvm.Cond.constantLong "ChordGrammarsModel" (120 : Nat) (255 : Int64)) ∈ wA := kA (i := 953) (by decide +kernel) rfl
theorem k_954 : (Jvm.Cond.methodLink "ChordGrammarsLaw" (40 : Nat) ({ cls := "ChordGrammarsModel", name := "grammar", desc := "()I" } : Jvm.MethodName)) ∈ wA := kA (i := 954) (by decide +kernel) rfl
theorem k_955 : (Jvm.Cond.instanceMethod ({ cls := "ChordGrammarsModel", name := "grammar", desc := "()I" } : Jvm.MethodName)) ∈ wA := kA (i := 955) (by decide +kernel) rfl
theorem k_956 : (Jvm.Cond.selects "ChordGrammarsModel" ({ cls := "ChordGrammarsModel", name := "grammar", desc := "()I" } : Jvm.MethodName) ({ cls := "ChordGrammarsModel", name := "grammar", desc := "()I" } : Jvm.MethodName)) ∈ wA := kA (i := 956) (by decide +kernel) rfl
theorem k_957 : (Jvm.Cond.code ({ cls := "ChordGrammarsModel", name := "grammar", desc := "()I" } : Jvm.MethodName) prog_12_method_18_code (2 : Nat) (Option.some Jvm.ClassFile.FieldType.int)) ∈ wA := kA (i := 957) (by decide +kernel) rfl
theorem k_958 : (Jvm.Cond.methodLink "ChordGrammarsModel" (150 : Nat) ({ cls := "ChordGrammarsModel", name := "blanks", desc := "()V" } : Jvm.MethodName)) ∈ wA := kA (i := 958) (by decide +kernel) rfl
theorem k_960 : (Jvm.Cond.instanceMethod ({ cls := "ChordGrammarsModel", name := "blanks", desc := "()V" } : Jvm.MethodName)) ∈ wA := kA (i := 960) (by decide +kernel) rfl
theorem k_961 : (Jvm.Cond.code ({ cls := "ChordGrammarsModel", name := "blanks", desc := "()V" } : Jvm.MethodName) prog_12_method_7_code (1 : Nat) (Option.none : Option Jvm.ClassFile.FieldType)) ∈ wA := kA (i := 961) (by decide +kernel) rfl
theorem k_962 : (Jvm.Cond.methodLink "ChordGrammarsModel" (125 : Nat) ({ cls := "ChordGrammarsModel", name := "here", desc := "()I" } : Jvm.MethodName)) ∈ wA := kA (i := 962) (by decide +kernel) rfl
theorem k_964 : (Jvm.Cond.instanceMethod ({ cls := "ChordGrammarsModel", name := "here", desc := "()I" } : Jvm.MethodName)) ∈ wA := kA (i := 964) (by decide +kernel) rfl
theorem k_965 : (Jvm.Cond.code ({ cls := "ChordGrammarsModel", name := "here", desc := "()I" } : Jvm.MethodName) prog_12_method_6_code (1 : Nat) (Option.some Jvm.ClassFile.FieldType.int)) ∈ wA := kA (i := 965) (by decide +kernel) rfl
theorem k_966 : (Jvm.Cond.methodLink "ChordGrammarsModel" (143 : Nat) ({ cls := "ChordGrammarsModel", name := "stop", desc := "(I)V" } : Jvm.MethodName)) ∈ wA := kA (i := 966) (by decide +kernel) rfl
theorem k_968 : (Jvm.Cond.instanceMethod ({ cls := "ChordGrammarsModel", name := "stop", desc := "(I)V" } : Jvm.MethodName)) ∈ wA := kA (i := 968) (by decide +kernel) rfl
theorem k_969 : (Jvm.Cond.code ({ cls := "ChordGrammarsModel", name := "stop", desc := "(I)V" } : Jvm.MethodName) prog_12_method_8_code (2 : Nat) (Option.none : Option Jvm.ClassFile.FieldType)) ∈ wA := kA (i := 969) (by decide +kernel) rfl
theorem k_970 : (Jvm.Cond.methodLink "ChordGrammarsModel" (166 : Nat) ({ cls := "ChordGrammarsModel", name := "rule", desc := "()V" } : Jvm.MethodName)) ∈ wA := kA (i := 970) (by decide +kernel) rfl
theorem k_972 : (Jvm.Cond.instanceMethod ({ cls := "ChordGrammarsModel", name := "rule", desc := "()V" } : Jvm.MethodName)) ∈ wA := kA (i := 972) (by decide +kernel) rfl
theorem k_973 : (Jvm.Cond.code ({ cls := "ChordGrammarsModel", name := "rule", desc := "()V" } : Jvm.MethodName) prog_12_method_15_code (2 : Nat) (Option.none : Option Jvm.ClassFile.FieldType)) ∈ wA := kA (i := 973) (by decide +kernel) rfl
theorem k_974 : (Jvm.Cond.methodLink "ChordGrammarsModel" (132 : Nat) ({ cls := "ChordGrammarsModel", name := "isName", desc := "(I)Z" } : Jvm.MethodName)) ∈ wA := kA (i := 974) (by decide +kernel) rfl
theorem k_975 : (Jvm.Cond.static ({ cls := "ChordGrammarsModel", name := "isName", desc := "(I)Z" } : Jvm.MethodName)) ∈ wA := kA (i := 975) (by decide +kernel) rfl
theorem k_976 : (Jvm.Cond.code ({ cls := "ChordGrammarsModel", name := "isName", desc := "(I)Z" } : Jvm.MethodName) prog_12_method_9_code (1 : Nat) (Option.some Jvm.ClassFile.FieldType.boolean)) ∈ wA := kA (i := 976) (by decide +kernel) rfl
theorem k_977 : (Jvm.Cond.methodLink "ChordGrammarsModel" (153 : Nat) ({ cls := "ChordGrammarsModel", name := "isItem", desc := "()Z" } : Jvm.MethodName)) ∈ wA := kA (i := 977) (by decide +kernel) rfl
theorem k_979 : (Jvm.Cond.instanceMethod ({ cls := "ChordGrammarsModel", name := "isItem", desc := "()Z" } : Jvm.MethodName)) ∈ wA := kA (i := 979) (by decide +kernel) rfl
theorem k_980 : (Jvm.Cond.code ({ cls := "ChordGrammarsModel", name := "isItem", desc := "()Z" } : Jvm.MethodName) prog_12_method_13_code (1 : Nat) (Option.some Jvm.ClassFile.FieldType.boolean)) ∈ wA := kA (i := 980) (by decide +kernel) rfl
theorem k_981 : (Jvm.Cond.methodLink "ChordGrammarsModel" (140 : Nat) ({ cls := "ChordGrammarsModel", name := "isDegree", desc := "(I)Z" } : Jvm.MethodName)) ∈ wA := kA (i := 981) (by decide +kernel) rfl
theorem k_982 : (Jvm.Cond.static ({ cls := "ChordGrammarsModel", name := "isDegree", desc := "(I)Z" } : Jvm.MethodName)) ∈ wA := kA (i := 982) (by decide +kernel) rfl
theorem k_983 : (Jvm.Cond.code ({ cls := "ChordGrammarsModel", name := "isDegree", desc := "(I)Z" } : Jvm.MethodName) prog_12_method_10_code (1 : Nat) (Option.some Jvm.ClassFile.FieldType.boolean)) ∈ wA := kA (i := 983) (by decide +kernel) rfl
theorem k_984 : (Jvm.Cond.methodLink "ChordGrammarsModel" (157 : Nat) ({ cls := "ChordGrammarsModel", name := "item", desc := "()I" } : Jvm.MethodName)) ∈ wA := kA (i := 984) (by decide +kernel) rfl
theorem k_986 : (Jvm.Cond.instanceMethod ({ cls := "ChordGrammarsModel", name := "item", desc := "()I" } : Jvm.MethodName)) ∈ wA := kA (i := 986) (by decide +kernel) rfl
theorem k_987 : (Jvm.Cond.code ({ cls := "ChordGrammarsModel", name := "item", desc := "()I" } : Jvm.MethodName) prog_12_method_12_code (3 : Nat) (Option.some Jvm.ClassFile.FieldType.int)) ∈ wA := kA (i := 987) (by decide +kernel) rfl
theorem k_988 : (Jvm.Cond.methodLink "ChordGrammarsModel" (136 : Nat) ({ cls := "ChordGrammarsModel", name := "kindOf", desc := "(I)I" } : Jvm.MethodName)) ∈ wA := kA (i := 988) (by decide +kernel) rfl
theorem k_989 : (Jvm.Cond.static ({ cls := "ChordGrammarsModel", name := "kindOf", desc := "(I)I" } : Jvm.MethodName)) ∈ wA := kA (i := 989) (by decide +kernel) rfl
theorem k_990 : (Jvm.Cond.code ({ cls := "ChordGrammarsModel", name := "kindOf", desc := "(I)I" } : Jvm.MethodName) prog_12_method_11_code (1 : Nat) (Option.some Jvm.ClassFile.FieldType.int)) ∈ wA := kA (i := 990) (by decide +kernel) rfl
theorem k_991 : (Jvm.Cond.methodLink "ChordGrammarsModel" (160 : Nat) ({ cls := "ChordGrammarsModel", name := "figures", desc := "()I" } : Jvm.MethodName)) ∈ wA := kA (i := 991) (by decide +kernel) rfl
theorem k_993 : (Jvm.Cond.instanceMethod ({ cls := "ChordGrammarsModel", name := "figures", desc := "()I" } : Jvm.MethodName)) ∈ wA := kA (i := 993) (by decide +kernel) rfl
theorem k_994 : (Jvm.Cond.code ({ cls := "ChordGrammarsModel", name := "figures", desc := "()I" } : Jvm.MethodName) prog_12_method_14_code (3 : Nat) (Option.some Jvm.ClassFile.FieldType.int)) ∈ wA := kA (i := 994) (by decide +kernel) rfl
theorem k_995 : (Jvm.Cond.methodLink "ChordGrammarsModel" (169 : Nat) ({ cls := "ChordGrammarsModel", name := "findRings", desc := "()V" } : Jvm.MethodName)) ∈ wA := kA (i := 995) (by decide +kernel) rfl
theorem k_997 : (Jvm.Cond.instanceMethod ({ cls := "ChordGrammarsModel", name := "findRings", desc := "()V" } : Jvm.MethodName)) ∈ wA := kA (i := 997) (by decide +kernel) rfl
theorem k_998 : (Jvm.Cond.code ({ cls := "ChordGrammarsModel", name := "findRings", desc := "()V" } : Jvm.MethodName) prog_12_method_17_code (4 : Nat) (Option.none : Option Jvm.ClassFile.FieldType)) ∈ wA := kA (i := 998) (by decide +kernel) rfl
theorem k_999 : (Jvm.Cond.methodLink "ChordGrammarsModel" (163 : Nat) ({ cls := "ChordGrammarsModel", name := "isUnary", desc := "(I)Z" } : Jvm.MethodName)) ∈ wA := kA (i := 999) (by decide +kernel) rfl
theorem k_1001 : (Jvm.Cond.instanceMethod ({ cls := "ChordGrammarsModel", name := "isUnary", desc := "(I)Z" } : Jvm.MethodName)) ∈ wA := kA (i := 1001) (by decide +kernel) rfl
theorem k_1002 : (Jvm.Cond.code ({ cls := "ChordGrammarsModel", name := "isUnary", desc := "(I)Z" } : Jvm.MethodName) prog_12_method_16_code (2 : Nat) (Option.some Jvm.ClassFile.FieldType.boolean)) ∈ wA := kA (i := 1002) (by decide +kernel) rfl
theorem k_1003 : (Jvm.Cond.methodLink "ChordGrammarsLaw" (45 : Nat) ({ cls := "ChordGrammarsModel", name := "slot", desc := "(III)I" } : Jvm.MethodName)) ∈ wA := kA (i := 1003) (by decide +kernel) rfl
theorem k_1004 : (Jvm.Cond.instanceMethod ({ cls := "ChordGrammarsModel", name := "slot", desc := "(III)I" } : Jvm.MethodName)) ∈ wA := kA (i := 1004) (by decide +kernel) rfl
theorem k_1005 : (Jvm.Cond.selects "ChordGrammarsModel" ({ cls := "ChordGrammarsModel", name := "slot", desc := "(III)I" } : Jvm.MethodName) ({ cls := "ChordGrammarsModel", name := "slot", desc := "(III)I" } : Jvm.MethodName)) ∈ wA := kA (i := 1005) (by decide +kernel) rfl
theorem k_1006 : (Jvm.Cond.code ({ cls := "ChordGrammarsModel", name := "slot", desc := "(III)I" } : Jvm.MethodName) prog_12_method_19_code (4 : Nat) (Option.some Jvm.ClassFile.FieldType.int)) ∈ wA := kA (i := 1006) (by decide +kernel) rfl
theorem k_1007 : (Jvm.Cond.methodLink "ChordGrammarsLaw" (49 : Nat) ({ cls := "ChordGrammarsModel", name := "clear", desc := "()I" } : Jvm.MethodName)) ∈ wA := kA (i := 1007) (by decide +kernel) rfl
theorem k_1008 : (Jvm.Cond.instanceMethod ({ cls := "ChordGrammarsModel", name := "clear", desc := "()I" } : Jvm.MethodName)) ∈ wA := kA (i := 1008) (by decide +kernel) rfl
theorem k_1009 : (Jvm.Cond.selects "ChordGrammarsModel" ({ cls := "ChordGrammarsModel", name := "clear", desc := "()I" } : Jvm.MethodName) ({ cls := "ChordGrammarsModel", name := "clear", desc := "()I" } : Jvm.MethodName)) ∈ wA := kA (i := 1009) (by decide +kernel) rfl
theorem k_1010 : (Jvm.Cond.code ({ cls := "ChordGrammarsModel", name := "clear", desc := "()I" } : Jvm.MethodName) prog_12_method_20_code (2 : Nat) (Option.some Jvm.ClassFile.FieldType.int)) ∈ wA := kA (i := 1010) (by decide +kernel) rfl
theorem k_1011 : (Jvm.Cond.methodLink "ChordGrammarsLaw" (53 : Nat) ({ cls := "ChordGrammarsModel", name := "fit", desc := "(III)I" } : Jvm.MethodName)) ∈ wA := kA (i := 1011) (by decide +kernel) rfl
theorem k_1012 : (Jvm.Cond.instanceMethod ({ cls := "ChordGrammarsModel", name := "fit", desc := "(III)I" } : Jvm.MethodName)) ∈ wA := kA (i := 1012) (by decide +kernel) rfl
theorem k_1013 : (Jvm.Cond.selects "ChordGrammarsModel" ({ cls := "ChordGrammarsModel", name := "fit", desc := "(III)I" } : Jvm.MethodName) ({ cls := "ChordGrammarsModel", name := "fit", desc := "(III)I" } : Jvm.MethodName)) ∈ wA := kA (i := 1013) (by decide +kernel) rfl
theorem k_1014 : (Jvm.Cond.code ({ cls := "ChordGrammarsModel", name := "fit", desc := "(III)I" } : Jvm.MethodName) prog_12_method_25_code (4 : Nat) (Option.some Jvm.ClassFile.FieldType.int)) ∈ wA := kA (i := 1014) (by decide +kernel) rfl
theorem k_1015 : (Jvm.Cond.methodLink "ChordGrammarsModel" (188 : Nat) ({ cls := "ChordGrammarsModel", name := "fits", desc := "(III)I" } : Jvm.MethodName)) ∈ wA := kA (i := 1015) (by decide +kernel) rfl
theorem k_1017 : (Jvm.Cond.instanceMethod ({ cls := "ChordGrammarsModel", name := "fits", desc := "(III)I" } : Jvm.MethodName)) ∈ wA := kA (i := 1017) (by decide +kernel) rfl
theorem k_1018 : (Jvm.Cond.code ({ cls := "ChordGrammarsModel", name := "fits", desc := "(III)I" } : Jvm.MethodName) prog_12_method_24_code (8 : Nat) (Option.some Jvm.ClassFile.FieldType.int)) ∈ wA := kA (i := 1018) (by decide +kernel) rfl
theorem k_1019 : (Jvm.Cond.methodLink "ChordGrammarsModel" (181 : Nat) ({ cls := "ChordGrammarsModel", name := "classes", desc := "(II)I" } : Jvm.MethodName)) ∈ wA := kA (i := 1019) (by decide +kernel) rfl
theorem k_1020 : (Jvm.Cond.static ({ cls := "ChordGrammarsModel", name := "classes", desc := "(II)I" } : Jvm.MethodName)) ∈ wA := kA (i := 1020) (by decide +kernel) rfl
theorem k_1021 : (Jvm.Cond.code ({ cls := "ChordGrammarsModel", name := "classes", desc := "(II)I" } : Jvm.MethodName) prog_12_method_22_code (3 : Nat) (Option.some Jvm.ClassFile.FieldType.int)) ∈ wA := kA (i := 1021) (by decide +kernel) rfl
theorem k_1022 : (Jvm.Cond.methodLink "ChordGrammarsModel" (178 : Nat) ({ cls := "ChordGrammarsModel", name := "shape", desc := "(I)I" } : Jvm.MethodName)) ∈ wA := kA (i := 1022) (by decide +kernel) rfl
theorem k_1023 : (Jvm.Cond.static ({ cls := "ChordGrammarsModel", name := "shape", desc := "(I)I" } : Jvm.MethodName)) ∈ wA := kA (i := 1023) (by decide +kernel) rfl
theorem k_1024 : (Jvm.Cond.code ({ cls := "ChordGrammarsModel", name := "shape", desc := "(I)I" } : Jvm.MethodName) prog_12_method_21_code (1 : Nat) (Option.some Jvm.ClassFile.FieldType.int)) ∈ wA := kA (i := 1024) (by decide +kernel) rfl
theorem k_1025 : (Jvm.Cond.methodLink "ChordGrammarsModel" (185 : Nat) ({ cls := "ChordGrammarsModel", name := "many", desc := "(I)I" } : Jvm.MethodName)) ∈ wA := kA (i := 1025) (by decide +kernel) rfl
theorem k_1026 : (Jvm.Cond.static ({ cls := "ChordGrammarsModel", name := "many", desc := "(I)I" } : Jvm.MethodName)) ∈ wA := kA (i := 1026) (by decide +kernel) rfl
theorem k_1027 : (Jvm.Cond.code ({ cls := "ChordGrammarsModel", name := "many", desc := "(I)I" } : Jvm.MethodName) prog_12_method_23_code (3 : Nat) (Option.some Jvm.ClassFile.FieldType.int)) ∈ wA := kA (i := 1027) (by decide +kernel) rfl
theorem k_1028 : (Jvm.Cond.methodLink "ChordGrammarsLaw" (58 : Nat) ({ cls := "ChordGrammarsModel", name := "best", desc := "(I)I" } : Jvm.MethodName)) ∈ wA := kA (i := 1028) (by decide +kernel) rfl
theorem k_1029 : (Jvm.Cond.instanceMethod ({ cls := "ChordGrammarsModel", name := "best", desc := "(I)I" } : Jvm.MethodName)) ∈ wA := kA (i := 1029) (by decide +kernel) rfl
theorem k_1030 : (Jvm.Cond.selects "ChordGrammarsModel" ({ cls := "ChordGrammarsModel", name := "best", desc := "(I)I" } : Jvm.MethodName) ({ cls := "ChordGrammarsModel", name := "best", desc := "(I)I" } : Jvm.MethodName)) ∈ wA := kA (i := 1030) (by decide +kernel) rfl
theorem k_1031 : (Jvm.Cond.code ({ cls := "ChordGrammarsModel", name := "best", desc := "(I)I" } : Jvm.MethodName) prog_12_method_26_code (6 : Nat) (Option.some Jvm.ClassFile.FieldType.int)) ∈ wA := kA (i := 1031) (by decide +kernel) rfl
theorem k_1032 : (Jvm.Cond.methodLink "ChordGrammarsLaw" (62 : Nat) ({ cls := "ChordGrammarsModel", name := "parse", desc := "()I" } : Jvm.MethodName)) ∈ wA := kA (i := 1032) (by decide +kernel) rfl
theorem k_1033 : (Jvm.Cond.instanceMethod ({ cls := "ChordGrammarsModel", name := "parse", desc := "()I" } : Jvm.MethodName)) ∈ wA := kA (i := 1033) (by decide +kernel) rfl
theorem k_1034 : (Jvm.Cond.selects "ChordGrammarsModel" ({ cls := "ChordGrammarsModel", name := "parse", desc := "()I" } : Jvm.MethodName) ({ cls := "ChordGrammarsModel", name := "parse", desc := "()I" } : Jvm.MethodName)) ∈ wA := kA (i := 1034) (by decide +kernel) rfl
theorem k_1035 : (Jvm.Cond.code ({ cls := "ChordGrammarsModel", name := "parse", desc := "()I" } : Jvm.MethodName) prog_12_method_38_code (7 : Nat) (Option.some Jvm.ClassFile.FieldType.int)) ∈ wA := kA (i := 1035) (by decide +kernel) rfl
theorem k_1036 : (Jvm.Cond.methodLink "ChordGrammarsModel" (222 : Nat) ({ cls := "ChordGrammarsModel", name := "readSymbols", desc := "()V" } : Jvm.MethodName)) ∈ wA := kA (i := 1036) (by decide +kernel) rfl
theorem k_1038 : (Jvm.Cond.instanceMethod ({ cls := "ChordGrammarsModel", name := "readSymbols", desc := "()V" } : Jvm.MethodName)) ∈ wA := kA (i := 1038) (by decide +kernel) rfl
theorem k_1039 : (Jvm.Cond.code ({ cls := "ChordGrammarsModel", name := "readSymbols", desc := "()V" } : Jvm.MethodName) prog_12_method_28_code (7 : Nat) (Option.none : Option Jvm.ClassFile.FieldType)) ∈ wA := kA (i := 1039) (by decide +kernel) rfl
theorem k_1040 : (Jvm.Cond.methodLink "ChordGrammarsModel" (195 : Nat) ({ cls := "ChordGrammarsModel", name := "degree", desc := "(I)I" } : Jvm.MethodName)) ∈ wA := kA (i := 1040) (by decide +kernel) rfl
theorem k_1042 : (Jvm.Cond.instanceMethod ({ cls := "ChordGrammarsModel", name := "degree", desc := "(I)I" } : Jvm.MethodName)) ∈ wA := kA (i := 1042) (by decide +kernel) rfl
theorem k_1043 : (Jvm.Cond.code ({ cls := "ChordGrammarsModel", name := "degree", desc := "(I)I" } : Jvm.MethodName) prog_12_method_27_code (2 : Nat) (Option.some Jvm.ClassFile.FieldType.int)) ∈ wA := kA (i := 1043) (by decide +kernel) rfl
theorem k_1044 : (Jvm.Cond.methodLink "ChordGrammarsModel" (225 : Nat) ({ cls := "ChordGrammarsModel", name := "order", desc := "()V" } : Jvm.MethodName)) ∈ wA := kA (i := 1044) (by decide +kernel) rfl
theorem k_1046 : (Jvm.Cond.instanceMethod ({ cls := "ChordGrammarsModel", name := "order", desc := "()V" } : Jvm.MethodName)) ∈ wA := kA (i := 1046) (by decide +kernel) rfl
theorem k_1047 : (Jvm.Cond.code ({ cls := "ChordGrammarsModel", name := "order", desc := "()V" } : Jvm.MethodName) prog_12_method_36_code (5 : Nat) (Option.none : Option Jvm.ClassFile.FieldType)) ∈ wA := kA (i := 1047) (by decide +kernel) rfl
theorem k_1048 : (Jvm.Cond.methodLink "ChordGrammarsModel" (228 : Nat) ({ cls := "ChordGrammarsModel", name := "nameAt", desc := "(I)I" } : Jvm.MethodName)) ∈ wA := kA (i := 1048) (by decide +kernel) rfl
theorem k_1050 : (Jvm.Cond.instanceMethod ({ cls := "ChordGrammarsModel", name := "nameAt", desc := "(I)I" } : Jvm.MethodName)) ∈ wA := kA (i := 1050) (by decide +kernel) rfl
theorem k_1051 : (Jvm.Cond.code ({ cls := "ChordGrammarsModel", name := "nameAt", desc := "(I)I" } : Jvm.MethodName) prog_12_method_37_code (3 : Nat) (Option.some Jvm.ClassFile.FieldType.int)) ∈ wA := kA (i := 1051) (by decide +kernel) rfl
theorem k_1052 : (Jvm.Cond.methodLink "ChordGrammarsModel" (198 : Nat) ({ cls := "ChordGrammarsModel", name := "cellOf", desc := "(III)I" } : Jvm.MethodName)) ∈ wA := kA (i := 1052) (by decide +kernel) rfl
theorem k_1053 : (Jvm.Cond.static ({ cls := "ChordGrammarsModel", name := "cellOf", desc := "(III)I" } : Jvm.MethodName)) ∈ wA := kA (i := 1053) (by decide +kernel) rfl
theorem k_1054 : (Jvm.Cond.code ({ cls := "ChordGrammarsModel", name := "cellOf", desc := "(III)I" } : Jvm.MethodName) prog_12_method_29_code (3 : Nat) (Option.some Jvm.ClassFile.FieldType.int)) ∈ wA := kA (i := 1054) (by decide +kernel) rfl
theorem k_1055 : (Jvm.Cond.methodLink "ChordGrammarsModel" (231 : Nat) ({ cls := "ChordGrammarsModel", name := "one", desc := "(IIII)V" } : Jvm.MethodName)) ∈ wA := kA (i := 1055) (by decide +kernel) rfl
theorem k_1057 : (Jvm.Cond.instanceMethod ({ cls := "ChordGrammarsModel", name := "one", desc := "(IIII)V" } : Jvm.MethodName)) ∈ wA := kA (i := 1057) (by decide +kernel) rfl
theorem k_1058 : (Jvm.Cond.code ({ cls := "ChordGrammarsModel", name := "one", desc := "(IIII)V" } : Jvm.MethodName) prog_12_method_34_code (8 : Nat) (Option.none : Option Jvm.ClassFile.FieldType)) ∈ wA := kA (i := 1058) (by decide +kernel) rfl
theorem k_1059 : (Jvm.Cond.methodLink "ChordGrammarsModel" (201 : Nat) ({ cls := "ChordGrammarsModel", name := "itemSize", desc := "(III)I" } : Jvm.MethodName)) ∈ wA := kA (i := 1059) (by decide +kernel) rfl
theorem k_1061 : (Jvm.Cond.instanceMethod ({ cls := "ChordGrammarsModel", name := "itemSize", desc := "(III)I" } : Jvm.MethodName)) ∈ wA := kA (i := 1061) (by decide +kernel) rfl
theorem k_1062 : (Jvm.Cond.code ({ cls := "ChordGrammarsModel", name := "itemSize", desc := "(III)I" } : Jvm.MethodName) prog_12_method_30_code (4 : Nat) (Option.some Jvm.ClassFile.FieldType.int)) ∈ wA := kA (i := 1062) (by decide +kernel) rfl
theorem k_1063 : (Jvm.Cond.methodLink "ChordGrammarsModel" (204 : Nat) ({ cls := "ChordGrammarsModel", name := "itemCount", desc := "(III)J" } : Jvm.MethodName)) ∈ wA := kA (i := 1063) (by decide +kernel) rfl
theorem k_1065 : (Jvm.Cond.instanceMethod ({ cls := "ChordGrammarsModel", name := "itemCount", desc := "(III)J" } : Jvm.MethodName)) ∈ wA := kA (i := 1065) (by decide +kernel) rfl
theorem k_1066 : (Jvm.Cond.code ({ cls := "ChordGrammarsModel", name := "itemCount", desc := "(III)J" } : Jvm.MethodName) prog_12_method_31_code (4 : Nat) (Option.some Jvm.ClassFile.FieldType.long)) ∈ wA := kA (i := 1066) (by decide +kernel) rfl
theorem k_1067 : (Jvm.Cond.methodLink "ChordGrammarsModel" (208 : Nat) ({ cls := "ChordGrammarsModel", name := "itemCost", desc := "(IIII)I" } : Jvm.MethodName)) ∈ wA := kA (i := 1067) (by decide +kernel) rfl
theorem k_1069 : (Jvm.Cond.instanceMethod ({ cls := "ChordGrammarsModel", name := "itemCost", desc := "(IIII)I" } : Jvm.MethodName)) ∈ wA := kA (i := 1069) (by decide +kernel) rfl
theorem k_1070 : (Jvm.Cond.code ({ cls := "ChordGrammarsModel", name := "itemCost", desc := "(IIII)I" } : Jvm.MethodName) prog_12_method_32_code (5 : Nat) (Option.some Jvm.ClassFile.FieldType.int)) ∈ wA := kA (i := 1070) (by decide +kernel) rfl
theorem k_1071 : (Jvm.Cond.methodLink "ChordGrammarsModel" (212 : Nat) ({ cls := "ChordGrammarsModel", name := "comes", desc := "(III)Z" } : Jvm.MethodName)) ∈ wA := kA (i := 1071) (by decide +kernel) rfl
theorem k_1073 : (Jvm.Cond.instanceMethod ({ cls := "ChordGrammarsModel", name := "comes", desc := "(III)Z" } : Jvm.MethodName)) ∈ wA := kA (i := 1073) (by decide +kernel) rfl
theorem k_1074 : (Jvm.Cond.code ({ cls := "ChordGrammarsModel", name := "comes", desc := "(III)Z" } : Jvm.MethodName) prog_12_method_33_code (7 : Nat) (Option.some Jvm.ClassFile.FieldType.boolean)) ∈ wA := kA (i := 1074) (by decide +kernel) rfl
theorem k_1075 : (Jvm.Cond.methodLink "ChordGrammarsModel" (235 : Nat) ({ cls := "ChordGrammarsModel", name := "two", desc := "(IIII)V" } : Jvm.MethodName)) ∈ wA := kA (i := 1075) (by decide +kernel) rfl
theorem k_1077 : (Jvm.Cond.instanceMethod ({ cls := "ChordGrammarsModel", name := "two", desc := "(IIII)V" } : Jvm.MethodName)) ∈ wA := kA (i := 1077) (by decide +kernel) rfl
theorem k_1078 : (Jvm.Cond.code ({ cls := "ChordGrammarsModel", name := "two", desc := "(IIII)V" } : Jvm.MethodName) prog_12_method_35_code (13 : Nat) (Option.none : Option Jvm.ClassFile.FieldType)) ∈ wA := kA (i := 1078) (by decide +kernel) rfl
theorem k_1079 : (Jvm.Cond.methodLink "ChordGrammarsModel" (238 : Nat) ({ cls := "ChordGrammarsModel", name := "listed", desc := "()I" } : Jvm.MethodName)) ∈ wA := kA (i := 1079) (by decide +kernel) rfl
theorem k_1081 : (Jvm.Cond.instanceMethod ({ cls := "ChordGrammarsModel", name := "listed", desc := "()I" } : Jvm.MethodName)) ∈ wA := kA (i := 1081) (by decide +kernel) rfl
theorem k_1082 : (Jvm.Cond.code ({ cls := "ChordGrammarsModel", name := "listed", desc := "()I" } : Jvm.MethodName) prog_12_method_40_code (1 : Nat) (Option.some Jvm.ClassFile.FieldType.int)) ∈ wA := kA (i := 1082) (by decide +kernel) rfl
theorem k_1083 : (Jvm.Cond.methodLink "ChordGrammarsModel" (241 : Nat) ({ cls := "ChordGrammarsModel", name := "topCell", desc := "()I" } : Jvm.MethodName)) ∈ wA := kA (i := 1083) (by decide +kernel) rfl
theorem k_1085 : (Jvm.Cond.instanceMethod ({ cls := "ChordGrammarsModel", name := "topCell", desc := "()I" } : Jvm.MethodName)) ∈ wA := kA (i := 1085) (by decide +kernel) rfl
theorem k_1086 : (Jvm.Cond.code ({ cls := "ChordGrammarsModel", name := "topCell", desc := "()I" } : Jvm.MethodName) prog_12_method_39_code (1 : Nat) (Option.some Jvm.ClassFile.FieldType.int)) ∈ wA := kA (i := 1086) (by decide +kernel) rfl
theorem k_1087 : (Jvm.Cond.methodLink "ChordGrammarsLaw" (67 : Nat) ({ cls := "ChordGrammarsModel", name := "readings", desc := "()J" } : Jvm.MethodName)) ∈ wA := kA (i := 1087) (by decide +kernel) rfl
theorem k_1088 : (Jvm.Cond.instanceMethod ({ cls := "ChordGrammarsModel", name := "readings", desc := "()J" } : Jvm.MethodName)) ∈ wA := kA (i := 1088) (by decide +kernel) rfl
theorem k_1089 : (Jvm.Cond.selects "ChordGrammarsModel" ({ cls := "ChordGrammarsModel", name := "readings", desc := "()J" } : Jvm.MethodName) ({ cls := "ChordGrammarsModel", name := "readings", desc := "()J" } : Jvm.MethodName)) ∈ wA := kA (i := 1089) (by decide +kernel) rfl
theorem k_1090 : (Jvm.Cond.code ({ cls := "ChordGrammarsModel", name := "readings", desc := "()J" } : Jvm.MethodName) prog_12_method_42_code (1 : Nat) (Option.some Jvm.ClassFile.FieldType.long)) ∈ wA := kA (i := 1090) (by decide +kernel) rfl
theorem k_1091 : (Jvm.Cond.methodLink "ChordGrammarsLaw" (71 : Nat) ({ cls := "ChordGrammarsModel", name := "price", desc := "(I)I" } : Jvm.MethodName)) ∈ wA := kA (i := 1091) (by decide +kernel) rfl
theorem k_1092 : (Jvm.Cond.instanceMethod ({ cls := "ChordGrammarsModel", name := "price", desc := "(I)I" } : Jvm.MethodName)) ∈ wA := kA (i := 1092) (by decide +kernel) rfl
theorem k_1093 : (Jvm.Cond.selects "ChordGrammarsModel" ({ cls := "ChordGrammarsModel", name := "price", desc := "(I)I" } : Jvm.MethodName) ({ cls := "ChordGrammarsModel", name := "price", desc := "(I)I" } : Jvm.MethodName)) ∈ wA := kA (i := 1093) (by decide +kernel) rfl
theorem k_1094 : (Jvm.Cond.code ({ cls := "ChordGrammarsModel", name := "price", desc := "(I)I" } : Jvm.MethodName) prog_12_method_43_code (2 : Nat) (Option.some Jvm.ClassFile.FieldType.int)) ∈ wA := kA (i := 1094) (by decide +kernel) rfl
theorem k_1095 : (Jvm.Cond.methodLink "ChordGrammarsModel" (244 : Nat) ({ cls := "ChordGrammarsModel", name := "noReading", desc := "(I)Z" } : Jvm.MethodName)) ∈ wA := kA (i := 1095) (by decide +kernel) rfl
theorem k_1097 : (Jvm.Cond.instanceMethod ({ cls := "ChordGrammarsModel", name := "noReading", desc := "(I)Z" } : Jvm.MethodName)) ∈ wA := kA (i := 1097) (by decide +kernel) rfl
theorem k_1098 : (Jvm.Cond.code ({ cls := "ChordGrammarsModel", name := "noReading", desc := "(I)Z" } : Jvm.MethodName) prog_12_method_41_code (2 : Nat) (Option.some Jvm.ClassFile.FieldType.boolean)) ∈ wA := kA (i := 1098) (by decide +kernel) rfl
theorem k_1099 : (Jvm.Cond.methodLink "ChordGrammarsLaw" (75 : Nat) ({ cls := "ChordGrammarsModel", name := "node", desc := "(III)I" } : Jvm.MethodName)) ∈ wA := kA (i := 1099) (by decide +kernel) rfl
theorem k_1100 : (Jvm.Cond.instanceMethod ({ cls := "ChordGrammarsModel", name := "node", desc := "(III)I" } : Jvm.MethodName)) ∈ wA := kA (i := 1100) (by decide +kernel) rfl
theorem k_1101 : (Jvm.Cond.selects "ChordGrammarsModel" ({ cls := "ChordGrammarsModel", name := "node", desc := "(III)I" } : Jvm.MethodName) ({ cls := "ChordGrammarsModel", name := "node", desc := "(III)I" } : Jvm.MethodName)) ∈ wA := kA (i := 1101) (by decide +kernel) rfl
theorem k_1102 : (Jvm.Cond.code ({ cls := "ChordGrammarsModel", name := "node", desc := "(III)I" } : Jvm.MethodName) prog_12_method_48_code (6 : Nat) (Option.some Jvm.ClassFile.FieldType.int)) ∈ wA := kA (i := 1102) (by decide +kernel) rfl
theorem k_1103 : (Jvm.Cond.methodLink "ChordGrammarsModel" (265 : Nat) ({ cls := "ChordGrammarsModel", name := "begin", desc := "(I)V" } : Jvm.MethodName)) ∈ wA := kA (i := 1103) (by decide +kernel) rfl
theorem k_1105 : (Jvm.Cond.instanceMethod ({ cls := "ChordGrammarsModel", name := "begin", desc := "(I)V" } : Jvm.MethodName)) ∈ wA := kA (i := 1105) (by decide +kernel) rfl
theorem k_1106 : (Jvm.Cond.code ({ cls := "ChordGrammarsModel", name := "begin", desc := "(I)V" } : Jvm.MethodName) prog_12_method_45_code (2 : Nat) (Option.none : Option Jvm.ClassFile.FieldType)) ∈ wA := kA (i := 1106) (by decide +kernel) rfl
theorem k_1107 : (Jvm.Cond.methodLink "ChordGrammarsModel" (250 : Nat) ({ cls := "ChordGrammarsModel", name := "later", desc := "(IIII)V" } : Jvm.MethodName)) ∈ wA := kA (i := 1107) (by decide +kernel) rfl
theorem k_1109 : (Jvm.Cond.instanceMethod ({ cls := "ChordGrammarsModel", name := "later", desc := "(IIII)V" } : Jvm.MethodName)) ∈ wA := kA (i := 1109) (by decide +kernel) rfl
theorem k_1110 : (Jvm.Cond.code ({ cls := "ChordGrammarsModel", name := "later", desc := "(IIII)V" } : Jvm.MethodName) prog_12_method_44_code (5 : Nat) (Option.none : Option Jvm.ClassFile.FieldType)) ∈ wA := kA (i := 1110) (by decide +kernel) rfl
theorem k_1111 : (Jvm.Cond.methodLink "ChordGrammarsModel" (268 : Nat) ({ cls := "ChordGrammarsModel", name := "next", desc := "()Z" } : Jvm.MethodName)) ∈ wA := kA (i := 1111) (by decide +kernel) rfl
theorem k_1113 : (Jvm.Cond.instanceMethod ({ cls := "ChordGrammarsModel", name := "next", desc := "()Z" } : Jvm.MethodName)) ∈ wA := kA (i := 1113) (by decide +kernel) rfl
theorem k_1114 : (Jvm.Cond.code ({ cls := "ChordGrammarsModel", name := "next", desc := "()Z" } : Jvm.MethodName) prog_12_method_46_code (6 : Nat) (Option.some Jvm.ClassFile.FieldType.boolean)) ∈ wA := kA (i := 1114) (by decide +kernel) rfl
theorem k_1115 : (Jvm.Cond.methodLink "ChordGrammarsModel" (271 : Nat) ({ cls := "ChordGrammarsModel", name := "nodeChord", desc := "()I" } : Jvm.MethodName)) ∈ wA := kA (i := 1115) (by decide +kernel) rfl
theorem k_1117 : (Jvm.Cond.instanceMethod ({ cls := "ChordGrammarsModel", name := "nodeChord", desc := "()I" } : Jvm.MethodName)) ∈ wA := kA (i := 1117) (by decide +kernel) rfl
theorem k_1118 : (Jvm.Cond.code ({ cls := "ChordGrammarsModel", name := "nodeChord", desc := "()I" } : Jvm.MethodName) prog_12_method_47_code (1 : Nat) (Option.some Jvm.ClassFile.FieldType.int)) ∈ wA := kA (i := 1118) (by decide +kernel) rfl
theorem k_1119 : (Jvm.Cond.methodLink "ChordGrammarsLaw" (79 : Nat) ({ cls := "ChordGrammarsModel", name := "nodes", desc := "(I)I" } : Jvm.MethodName)) ∈ wA := kA (i := 1119) (by decide +kernel) rfl
theorem k_1120 : (Jvm.Cond.instanceMethod ({ cls := "ChordGrammarsModel", name := "nodes", desc := "(I)I" } : Jvm.MethodName)) ∈ wA := kA (i := 1120) (by decide +kernel) rfl
theorem k_1121 : (Jvm.Cond.selects "ChordGrammarsModel" ({ cls := "ChordGrammarsModel", name := "nodes", desc := "(I)I" } : Jvm.MethodName) ({ cls := "ChordGrammarsModel", name := "nodes", desc := "(I)I" } : Jvm.MethodName)) ∈ wA := kA (i := 1121) (by decide +kernel) rfl
theorem k_1122 : (Jvm.Cond.code ({ cls := "ChordGrammarsModel", name := "nodes", desc := "(I)I" } : Jvm.MethodName) prog_12_method_49_code (3 : Nat) (Option.some Jvm.ClassFile.FieldType.int)) ∈ wA := kA (i := 1122) (by decide +kernel) rfl
theorem k_1123 : (Jvm.Cond.methodLink "ChordGrammarsLaw" (84 : Nat) ({ cls := "ChordGrammarsModel", name := "chord", desc := "(II)I" } : Jvm.MethodName)) ∈ wA := kA (i := 1123) (by decide +kernel) rfl
theorem k_1124 : (Jvm.Cond.instanceMethod ({ cls := "ChordGrammarsModel", name := "chord", desc := "(II)I" } : Jvm.MethodName)) ∈ wA := kA (i := 1124) (by decide +kernel) rfl
theorem k_1125 : (Jvm.Cond.selects "ChordGrammarsModel" ({ cls := "ChordGrammarsModel", name := "chord", desc := "(II)I" } : Jvm.MethodName) ({ cls := "ChordGrammarsModel", name := "chord", desc := "(II)I" } : Jvm.MethodName)) ∈ wA := kA (i := 1125) (by decide +kernel) rfl
theorem k_1126 : (Jvm.Cond.code ({ cls := "ChordGrammarsModel", name := "chord", desc := "(II)I" } : Jvm.MethodName) prog_12_method_51_code (3 : Nat) (Option.some Jvm.ClassFile.FieldType.int)) ∈ wA := kA (i := 1126) (by decide +kernel) rfl
theorem k_1127 : (Jvm.Cond.methodLink "ChordGrammarsModel" (274 : Nat) ({ cls := "ChordGrammarsModel", name := "symbolAt", desc := "(II)I" } : Jvm.MethodName)) ∈ wA := kA (i := 1127) (by decide +kernel) rfl
theorem k_1129 : (Jvm.Cond.instanceMethod ({ cls := "ChordGrammarsModel", name := "symbolAt", desc := "(II)I" } : Jvm.MethodName)) ∈ wA := kA (i := 1129) (by decide +kernel) rfl
theorem k_1130 : (Jvm.Cond.code ({ cls := "ChordGrammarsModel", name := "symbolAt", desc := "(II)I" } : Jvm.MethodName) prog_12_method_50_code (3 : Nat) (Option.some Jvm.ClassFile.FieldType.int)) ∈ wA := kA (i := 1130) (by decide +kernel) rfl
theorem k_1131 : (Jvm.Cond.methodLink "ChordGrammarsLaw" (88 : Nat) ({ cls := "ChordGrammarsModel", name := "cadence", desc := "(I)I" } : Jvm.MethodName)) ∈ wA := kA (i := 1131) (by decide +kernel) rfl
theorem k_1132 : (Jvm.Cond.instanceMethod ({ cls := "ChordGrammarsModel", name := "cadence", desc := "(I)I" } : Jvm.MethodName)) ∈ wA := kA (i := 1132) (by decide +kernel) rfl
theorem k_1133 : (Jvm.Cond.selects "ChordGrammarsModel" ({ cls := "ChordGrammarsModel", name := "cadence", desc := "(I)I" } : Jvm.MethodName) ({ cls := "ChordGrammarsModel", name := "cadence", desc := "(I)I" } : Jvm.MethodName)) ∈ wA := kA (i := 1133) (by decide +kernel) rfl
theorem k_1134 : (Jvm.Cond.code ({ cls := "ChordGrammarsModel", name := "cadence", desc := "(I)I" } : Jvm.MethodName) prog_12_method_52_code (4 : Nat) (Option.some Jvm.ClassFile.FieldType.int)) ∈ wA := kA (i := 1134) (by decide +kernel) rfl
theorem k_1135 : (Jvm.Cond.methodLink "ChordGrammarsLaw" (92 : Nat) ({ cls := "ChordGrammarsModel", name := "melody", desc := "(II)I" } : Jvm.MethodName)) ∈ wA := kA (i := 1135) (by decide +kernel) rfl
theorem k_1136 : (Jvm.Cond.instanceMethod ({ cls := "ChordGrammarsModel", name := "melody", desc := "(II)I" } : Jvm.MethodName)) ∈ wA := kA (i := 1136) (by decide +kernel) rfl
theorem k_1137 : (Jvm.Cond.selects "ChordGrammarsModel" ({ cls := "ChordGrammarsModel", name := "melody", desc := "(II)I" } : Jvm.MethodName) ({ cls := "ChordGrammarsModel", name := "melody", desc := "(II)I" } : Jvm.MethodName)) ∈ wA := kA (i := 1137) (by decide +kernel) rfl
theorem k_1138 : (Jvm.Cond.code ({ cls := "ChordGrammarsModel", name := "melody", desc := "(II)I" } : Jvm.MethodName) prog_12_method_56_code (10 : Nat) (Option.some Jvm.ClassFile.FieldType.int)) ∈ wA := kA (i := 1138) (by decide +kernel) rfl
theorem k_1139 : (Jvm.Cond.methodLink "ChordGrammarsModel" (277 : Nat) ({ cls := "ChordGrammarsModel", name := "isStep", desc := "(I)Z" } : Jvm.MethodName)) ∈ wA := kA (i := 1139) (by decide +kernel) rfl
theorem k_1140 : (Jvm.Cond.static ({ cls := "ChordGrammarsModel", name := "isStep", desc := "(I)Z" } : Jvm.MethodName)) ∈ wA := kA (i := 1140) (by decide +kernel) rfl
theorem k_1141 : (Jvm.Cond.code ({ cls := "ChordGrammarsModel", name := "isStep", desc := "(I)Z" } : Jvm.MethodName) prog_12_method_53_code (1 : Nat) (Option.some Jvm.ClassFile.FieldType.boolean)) ∈ wA := kA (i := 1141) (by decide +kernel) rfl
theorem k_1142 : (Jvm.Cond.methodLink "ChordGrammarsModel" (280 : Nat) ({ cls := "ChordGrammarsModel", name := "isTurned", desc := "(II)Z" } : Jvm.MethodName)) ∈ wA := kA (i := 1142) (by decide +kernel) rfl
theorem k_1143 : (Jvm.Cond.static ({ cls := "ChordGrammarsModel", name := "isTurned", desc := "(II)Z" } : Jvm.MethodName)) ∈ wA := kA (i := 1143) (by decide +kernel) rfl
theorem k_1144 : (Jvm.Cond.code ({ cls := "ChordGrammarsModel", name := "isTurned", desc := "(II)Z" } : Jvm.MethodName) prog_12_method_55_code (2 : Nat) (Option.some Jvm.ClassFile.FieldType.boolean)) ∈ wA := kA (i := 1144) (by decide +kernel) rfl
theorem k_1145 : (Jvm.Cond.methodLink "ChordGrammarsModel" (284 : Nat) ({ cls := "ChordGrammarsModel", name := "isMore", desc := "(I)Z" } : Jvm.MethodName)) ∈ wA := kA (i := 1145) (by decide +kernel) rfl
theorem k_1146 : (Jvm.Cond.static ({ cls := "ChordGrammarsModel", name := "isMore", desc := "(I)Z" } : Jvm.MethodName)) ∈ wA := kA (i := 1146) (by decide +kernel) rfl
theorem k_1147 : (Jvm.Cond.code ({ cls := "ChordGrammarsModel", name := "isMore", desc := "(I)Z" } : Jvm.MethodName) prog_12_method_54_code (1 : Nat) (Option.some Jvm.ClassFile.FieldType.boolean)) ∈ wA := kA (i := 1147) (by decide +kernel) rfl
theorem k_1148 : (Jvm.Cond.methodLink "ChordGrammarsLaw" (98 : Nat) ({ cls := "ChordGrammarsModel", name := "cell", desc := "(III)J" } : Jvm.MethodName)) ∈ wA := kA (i := 1148) (by decide +kernel) rfl
theorem k_1149 : (Jvm.Cond.instanceMethod ({ cls := "ChordGrammarsModel", name := "cell", desc := "(III)J" } : Jvm.MethodName)) ∈ wA := kA (i := 1149) (by decide +kernel) rfl
theorem k_1150 : (Jvm.Cond.selects "ChordGrammarsModel" ({ cls := "ChordGrammarsModel", name := "cell", desc := "(III)J" } : Jvm.MethodName) ({ cls := "ChordGrammarsModel", name := "cell", desc := "(III)J" } : Jvm.MethodName)) ∈ wA := kA (i := 1150) (by decide +kernel) rfl
theorem k_1151 : (Jvm.Cond.code ({ cls := "ChordGrammarsModel", name := "cell", desc := "(III)J" } : Jvm.MethodName) prog_12_method_57_code (4 : Nat) (Option.some Jvm.ClassFile.FieldType.long)) ∈ wA := kA (i := 1151) (by decide +kernel) rfl
theorem k_1152 : (Jvm.Cond.methodLink "ChordGrammarsLaw" (105 : Nat) ({ cls := "ChordGrammarsModel", name := "told", desc := "(I)I" } : Jvm.MethodName)) ∈ wA := kA (i := 1152) (by decide +kernel) rfl
theorem k_1153 : (Jvm.Cond.instanceMethod ({ cls := "ChordGrammarsModel", name := "told", desc := "(I)I" } : Jvm.MethodName)) ∈ wA := kA (i := 1153) (by decide +kernel) rfl
theorem k_1154 : (Jvm.Cond.selects "ChordGrammarsModel" ({ cls := "ChordGrammarsModel", name := "told", desc := "(I)I" } : Jvm.MethodName) ({ cls := "ChordGrammarsModel", name := "told", desc := "(I)I" } : Jvm.MethodName)) ∈ wA := kA (i := 1154) (by decide +kernel) rfl
theorem k_1155 : (Jvm.Cond.code ({ cls := "ChordGrammarsModel", name := "told", desc := "(I)I" } : Jvm.MethodName) prog_12_method_58_code (2 : Nat) (Option.some Jvm.ClassFile.FieldType.int)) ∈ wA := kA (i := 1155) (by decide +kernel) rfl
theorem k_1156 : (Jvm.Cond.constantLong "ChordGrammarsLaw" (29 : Nat) (4294967295 : Int64)) ∈ wA := kA (i := 1156) (by decide +kernel) rfl
theorem k_1158 : (Jvm.Cond.fieldLink "java/lang/String" (15 : Nat) "java/lang/String" "coder" "B") ∈ wA := kA (i := 1158) (by decide +kernel) rfl
theorem k_1159 : (Jvm.Cond.fieldLink "java/lang/String" (9 : Nat) "java/lang/String" "value" "[B") ∈ wA := kA (i := 1159) (by decide +kernel) rfl
theorem ks_0 : Cond.selects "ChordGrammars$Key" ({ cls := "ChordGrammars$Key", name := "change", desc := "(IZ)Z" } : MethodName) ({ cls := "ChordGrammars$Key", name := "change", desc := "(IZ)Z" } : MethodName) ∈ wA := kS (i := 0) (by decide +kernel) rfl
theorem ks_1 : Cond.selects "ChordGrammars$Tariff" ({ cls := "ChordGrammars$Tariff", name := "change", desc := "(II)Z" } : MethodName) ({ cls := "ChordGrammars$Tariff", name := "change", desc := "(II)Z" } : MethodName) ∈ wA := kS (i := 1) (by decide +kernel) rfl
theorem ks_2 : Cond.selects "ChordGrammars$Draft" ({ cls := "ChordGrammars$Draft", name := "extend", desc := "(IJ)I" } : MethodName) ({ cls := "ChordGrammars$Draft", name := "extend", desc := "(IJ)I" } : MethodName) ∈ wA := kS (i := 2) (by decide +kernel) rfl
theorem ks_3 : Cond.selects "ChordGrammars$Reader" ({ cls := "ChordGrammars$Reader", name := "readAll", desc := "(LChordGrammars$Draft;)I" } : MethodName) ({ cls := "ChordGrammars$Reader", name := "readAll", desc := "(LChordGrammars$Draft;)I" } : MethodName) ∈ wA := kS (i := 3) (by decide +kernel) rfl
theorem ks_4 : Cond.selects "ChordGrammars$Reader" ({ cls := "ChordGrammars$Reader", name := "nextOctet", desc := "(LChordGrammars$Draft;)I" } : MethodName) ({ cls := "ChordGrammars$Reader", name := "nextOctet", desc := "(LChordGrammars$Draft;)I" } : MethodName) ∈ wA := kS (i := 4) (by decide +kernel) rfl
theorem ks_5 : Cond.selects "ChordGrammars$Draft" ({ cls := "ChordGrammars$Draft", name := "octetAt", desc := "(I)I" } : MethodName) ({ cls := "ChordGrammars$Draft", name := "octetAt", desc := "(I)I" } : MethodName) ∈ wA := kS (i := 5) (by decide +kernel) rfl
theorem ks_6 : Cond.selects "ChordGrammars$Reader" ({ cls := "ChordGrammars$Reader", name := "readRule", desc := "(LChordGrammars$Draft;)Z" } : MethodName) ({ cls := "ChordGrammars$Reader", name := "readRule", desc := "(LChordGrammars$Draft;)Z" } : MethodName) ∈ wA := kS (i := 6) (by decide +kernel) rfl
theorem ks_7 : Cond.selects "ChordGrammars$Reader" ({ cls := "ChordGrammars$Reader", name := "takes", desc := "(LChordGrammars$Draft;I)Z" } : MethodName) ({ cls := "ChordGrammars$Reader", name := "takes", desc := "(LChordGrammars$Draft;I)Z" } : MethodName) ∈ wA := kS (i := 7) (by decide +kernel) rfl
theorem ks_8 : Cond.selects "ChordGrammars$Reader" ({ cls := "ChordGrammars$Reader", name := "readItem", desc := "(LChordGrammars$Draft;)I" } : MethodName) ({ cls := "ChordGrammars$Reader", name := "readItem", desc := "(LChordGrammars$Draft;)I" } : MethodName) ∈ wA := kS (i := 8) (by decide +kernel) rfl
theorem ks_9 : Cond.selects "ChordGrammars$Reader" ({ cls := "ChordGrammars$Reader", name := "readCost", desc := "(LChordGrammars$Draft;)I" } : MethodName) ({ cls := "ChordGrammars$Reader", name := "readCost", desc := "(LChordGrammars$Draft;)I" } : MethodName) ∈ wA := kS (i := 9) (by decide +kernel) rfl
theorem ks_10 : Cond.selects "ChordGrammars$Reader" ({ cls := "ChordGrammars$Reader", name := "findReach", desc := "()V" } : MethodName) ({ cls := "ChordGrammars$Reader", name := "findReach", desc := "()V" } : MethodName) ∈ wA := kS (i := 10) (by decide +kernel) rfl
theorem ks_11 : Cond.selects "ChordGrammars$Grammar" ({ cls := "ChordGrammars$Grammar", name := "renames", desc := "(I)Z" } : MethodName) ({ cls := "ChordGrammars$Grammar", name := "renames", desc := "(I)Z" } : MethodName) ∈ wA := kS (i := 11) (by decide +kernel) rfl
theorem ks_12 : Cond.selects "ChordGrammars$Reader" ({ cls := "ChordGrammars$Reader", name := "reaches", desc := "(II)Z" } : MethodName) ({ cls := "ChordGrammars$Reader", name := "reaches", desc := "(II)Z" } : MethodName) ∈ wA := kS (i := 12) (by decide +kernel) rfl
theorem ks_13 : Cond.selects "ChordGrammars$Reader" ({ cls := "ChordGrammars$Reader", name := "ringPlace", desc := "()I" } : MethodName) ({ cls := "ChordGrammars$Reader", name := "ringPlace", desc := "()I" } : MethodName) ∈ wA := kS (i := 13) (by decide +kernel) rfl
theorem ks_14 : Cond.selects "ChordGrammars$Reader" ({ cls := "ChordGrammars$Reader", name := "arrange", desc := "()V" } : MethodName) ({ cls := "ChordGrammars$Reader", name := "arrange", desc := "()V" } : MethodName) ∈ wA := kS (i := 14) (by decide +kernel) rfl
theorem ks_15 : Cond.selects "ChordGrammars$Grammar" ({ cls := "ChordGrammars$Grammar", name := "become", desc := "(LChordGrammars$Grammar;)V" } : MethodName) ({ cls := "ChordGrammars$Grammar", name := "become", desc := "(LChordGrammars$Grammar;)V" } : MethodName) ∈ wA := kS (i := 15) (by decide +kernel) rfl
theorem ks_16 : Cond.selects "ChordGrammars$Slots" ({ cls := "ChordGrammars$Slots", name := "add", desc := "(III)I" } : MethodName) ({ cls := "ChordGrammars$Slots", name := "add", desc := "(III)I" } : MethodName) ∈ wA := kS (i := 16) (by decide +kernel) rfl
theorem ks_17 : Cond.selects "ChordGrammars$Slots" ({ cls := "ChordGrammars$Slots", name := "has", desc := "(I)Z" } : MethodName) ({ cls := "ChordGrammars$Slots", name := "has", desc := "(I)Z" } : MethodName) ∈ wA := kS (i := 17) (by decide +kernel) rfl
theorem ks_18 : Cond.selects "ChordGrammars$Tariff" ({ cls := "ChordGrammars$Tariff", name := "ofFit", desc := "(IIII)I" } : MethodName) ({ cls := "ChordGrammars$Tariff", name := "ofFit", desc := "(IIII)I" } : MethodName) ∈ wA := kS (i := 18) (by decide +kernel) rfl
theorem ks_19 : Cond.selects "ChordGrammars$Tariff" ({ cls := "ChordGrammars$Tariff", name := "ofBass", desc := "(III)I" } : MethodName) ({ cls := "ChordGrammars$Tariff", name := "ofBass", desc := "(III)I" } : MethodName) ∈ wA := kS (i := 19) (by decide +kernel) rfl
theorem ks_20 : Cond.selects "ChordGrammars$Tariff" ({ cls := "ChordGrammars$Tariff", name := "cheapest", desc := "(II)I" } : MethodName) ({ cls := "ChordGrammars$Tariff", name := "cheapest", desc := "(II)I" } : MethodName) ∈ wA := kS (i := 20) (by decide +kernel) rfl
theorem ks_21 : Cond.selects "ChordGrammars$Chart" ({ cls := "ChordGrammars$Chart", name := "listAll", desc := "(LChordGrammars$Grammar;LChordGrammars$Slots;LChordGrammars$Key;LChordGrammars$Tariff;)V" } : MethodName) ({ cls := "ChordGrammars$Chart", name := "listAll", desc := "(LChordGrammars$Grammar;LChordGrammars$Slots;LChordGrammars$Key;LChordGrammars$Tariff;)V" } : MethodName) ∈ wA := kS (i := 21) (by decide +kernel) rfl
theorem ks_22 : Cond.selects "ChordGrammars$Symbols" ({ cls := "ChordGrammars$Symbols", name := "fill", desc := "(LChordGrammars$Slots;LChordGrammars$Key;LChordGrammars$Tariff;)V" } : MethodName) ({ cls := "ChordGrammars$Symbols", name := "fill", desc := "(LChordGrammars$Slots;LChordGrammars$Key;LChordGrammars$Tariff;)V" } : MethodName) ∈ wA := kS (i := 22) (by decide +kernel) rfl
theorem ks_23 : Cond.selects "ChordGrammars$Key" ({ cls := "ChordGrammars$Key", name := "rootOf", desc := "(I)I" } : MethodName) ({ cls := "ChordGrammars$Key", name := "rootOf", desc := "(I)I" } : MethodName) ∈ wA := kS (i := 23) (by decide +kernel) rfl
theorem ks_24 : Cond.selects "ChordGrammars$Symbols" ({ cls := "ChordGrammars$Symbols", name := "fillDegree", desc := "(LChordGrammars$Slots;IIILChordGrammars$Tariff;)V" } : MethodName) ({ cls := "ChordGrammars$Symbols", name := "fillDegree", desc := "(LChordGrammars$Slots;IIILChordGrammars$Tariff;)V" } : MethodName) ∈ wA := kS (i := 24) (by decide +kernel) rfl
theorem ks_25 : Cond.selects "ChordGrammars$Chart" ({ cls := "ChordGrammars$Chart", name := "fillSpan", desc := "(II)V" } : MethodName) ({ cls := "ChordGrammars$Chart", name := "fillSpan", desc := "(II)V" } : MethodName) ∈ wA := kS (i := 25) (by decide +kernel) rfl
theorem ks_26 : Cond.selects "ChordGrammars$Chart" ({ cls := "ChordGrammars$Chart", name := "addWhole", desc := "(III)V" } : MethodName) ({ cls := "ChordGrammars$Chart", name := "addWhole", desc := "(III)V" } : MethodName) ∈ wA := kS (i := 26) (by decide +kernel) rfl
theorem ks_27 : Cond.selects "ChordGrammars$Chart" ({ cls := "ChordGrammars$Chart", name := "sizeOf", desc := "(III)I" } : MethodName) ({ cls := "ChordGrammars$Chart", name := "sizeOf", desc := "(III)I" } : MethodName) ∈ wA := kS (i := 27) (by decide +kernel) rfl
theorem ks_28 : Cond.selects "ChordGrammars$Chart" ({ cls := "ChordGrammars$Chart", name := "chordOf", desc := "(II)I" } : MethodName) ({ cls := "ChordGrammars$Chart", name := "chordOf", desc := "(II)I" } : MethodName) ∈ wA := kS (i := 28) (by decide +kernel) rfl
theorem ks_29 : Cond.selects "ChordGrammars$Chart" ({ cls := "ChordGrammars$Chart", name := "countOf", desc := "(III)J" } : MethodName) ({ cls := "ChordGrammars$Chart", name := "countOf", desc := "(III)J" } : MethodName) ∈ wA := kS (i := 29) (by decide +kernel) rfl
theorem ks_30 : Cond.selects "ChordGrammars$Chart" ({ cls := "ChordGrammars$Chart", name := "priceOf", desc := "(IIII)I" } : MethodName) ({ cls := "ChordGrammars$Chart", name := "priceOf", desc := "(IIII)I" } : MethodName) ∈ wA := kS (i := 30) (by decide +kernel) rfl
theorem ks_31 : Cond.selects "ChordGrammars$Chart" ({ cls := "ChordGrammars$Chart", name := "entryAt", desc := "(IIII)J" } : MethodName) ({ cls := "ChordGrammars$Chart", name := "entryAt", desc := "(IIII)J" } : MethodName) ∈ wA := kS (i := 31) (by decide +kernel) rfl
theorem ks_32 : Cond.selects "ChordGrammars$Chart" ({ cls := "ChordGrammars$Chart", name := "offer", desc := "(IJ)Z" } : MethodName) ({ cls := "ChordGrammars$Chart", name := "offer", desc := "(IJ)Z" } : MethodName) ∈ wA := kS (i := 32) (by decide +kernel) rfl
theorem ks_33 : Cond.selects "ChordGrammars$Chart" ({ cls := "ChordGrammars$Chart", name := "addParts", desc := "(IIII)V" } : MethodName) ({ cls := "ChordGrammars$Chart", name := "addParts", desc := "(IIII)V" } : MethodName) ∈ wA := kS (i := 33) (by decide +kernel) rfl
theorem ks_34 : Cond.selects "ChordGrammars$Chart" ({ cls := "ChordGrammars$Chart", name := "listed", desc := "()I" } : MethodName) ({ cls := "ChordGrammars$Chart", name := "listed", desc := "()I" } : MethodName) ∈ wA := kS (i := 34) (by decide +kernel) rfl
theorem ks_35 : Cond.selects "ChordGrammars$Chart" ({ cls := "ChordGrammars$Chart", name := "wholeRow", desc := "()I" } : MethodName) ({ cls := "ChordGrammars$Chart", name := "wholeRow", desc := "()I" } : MethodName) ∈ wA := kS (i := 35) (by decide +kernel) rfl
theorem ks_36 : Cond.selects "ChordGrammars$Chart" ({ cls := "ChordGrammars$Chart", name := "countOfAll", desc := "()J" } : MethodName) ({ cls := "ChordGrammars$Chart", name := "countOfAll", desc := "()J" } : MethodName) ∈ wA := kS (i := 36) (by decide +kernel) rfl
theorem ks_37 : Cond.selects "ChordGrammars" ({ cls := "ChordGrammars", name := "isListed", desc := "(I)Z" } : MethodName) ({ cls := "ChordGrammars", name := "isListed", desc := "(I)Z" } : MethodName) ∈ wA := kS (i := 37) (by decide +kernel) rfl
theorem ks_38 : Cond.selects "ChordGrammars$Chart" ({ cls := "ChordGrammars$Chart", name := "priceOfWhole", desc := "(I)I" } : MethodName) ({ cls := "ChordGrammars$Chart", name := "priceOfWhole", desc := "(I)I" } : MethodName) ∈ wA := kS (i := 38) (by decide +kernel) rfl
theorem ks_39 : Cond.selects "ChordGrammars" ({ cls := "ChordGrammars", name := "treeOf", desc := "(I)LChordGrammars$Tree;" } : MethodName) ({ cls := "ChordGrammars", name := "treeOf", desc := "(I)LChordGrammars$Tree;" } : MethodName) ∈ wA := kS (i := 39) (by decide +kernel) rfl
theorem ks_40 : Cond.selects "ChordGrammars$Tree" ({ cls := "ChordGrammars$Tree", name := "walk", desc := "(LChordGrammars$Chart;I)V" } : MethodName) ({ cls := "ChordGrammars$Tree", name := "walk", desc := "(LChordGrammars$Chart;I)V" } : MethodName) ∈ wA := kS (i := 40) (by decide +kernel) rfl
theorem ks_41 : Cond.selects "ChordGrammars$Tree" ({ cls := "ChordGrammars$Tree", name := "push", desc := "(IIII)V" } : MethodName) ({ cls := "ChordGrammars$Tree", name := "push", desc := "(IIII)V" } : MethodName) ∈ wA := kS (i := 41) (by decide +kernel) rfl
theorem ks_42 : Cond.selects "ChordGrammars$Tree" ({ cls := "ChordGrammars$Tree", name := "visit", desc := "(LChordGrammars$Chart;II)V" } : MethodName) ({ cls := "ChordGrammars$Tree", name := "visit", desc := "(LChordGrammars$Chart;II)V" } : MethodName) ∈ wA := kS (i := 42) (by decide +kernel) rfl
theorem ks_43 : Cond.selects "ChordGrammars$Tree" ({ cls := "ChordGrammars$Tree", name := "pushParts", desc := "(LChordGrammars$Grammar;JII)V" } : MethodName) ({ cls := "ChordGrammars$Tree", name := "pushParts", desc := "(LChordGrammars$Grammar;JII)V" } : MethodName) ∈ wA := kS (i := 43) (by decide +kernel) rfl
theorem ks_44 : Cond.selects "ChordGrammars$Chart" ({ cls := "ChordGrammars$Chart", name := "hasSlot", desc := "(I)Z" } : MethodName) ({ cls := "ChordGrammars$Chart", name := "hasSlot", desc := "(I)Z" } : MethodName) ∈ wA := kS (i := 44) (by decide +kernel) rfl
theorem ks_45 : Cond.selects "ChordGrammars$Tree" ({ cls := "ChordGrammars$Tree", name := "degreeAt", desc := "(I)I" } : MethodName) ({ cls := "ChordGrammars$Tree", name := "degreeAt", desc := "(I)I" } : MethodName) ∈ wA := kS (i := 45) (by decide +kernel) rfl
theorem ks_46 : Cond.selects "ChordGrammars$Chart" ({ cls := "ChordGrammars$Chart", name := "pitchAt", desc := "(I)I" } : MethodName) ({ cls := "ChordGrammars$Chart", name := "pitchAt", desc := "(I)I" } : MethodName) ∈ wA := kS (i := 46) (by decide +kernel) rfl
theorem ks_47 : Cond.selects "java/lang/Throwable" ({ cls := "java/lang/Throwable", name := "fillInStackTrace", desc := "(I)Ljava/lang/Throwable;" } : MethodName) ({ cls := "java/lang/Throwable", name := "fillInStackTrace", desc := "(I)Ljava/lang/Throwable;" } : MethodName) ∈ wA := kS (i := 47) (by decide +kernel) rfl
theorem ks_48 : Cond.selects "ChordGrammarsModel" ({ cls := "ChordGrammarsModel", name := "blanks", desc := "()V" } : MethodName) ({ cls := "ChordGrammarsModel", name := "blanks", desc := "()V" } : MethodName) ∈ wA := kS (i := 48) (by decide +kernel) rfl
theorem ks_49 : Cond.selects "ChordGrammarsModel" ({ cls := "ChordGrammarsModel", name := "here", desc := "()I" } : MethodName) ({ cls := "ChordGrammarsModel", name := "here", desc := "()I" } : MethodName) ∈ wA := kS (i := 49) (by decide +kernel) rfl
theorem ks_50 : Cond.selects "ChordGrammarsModel" ({ cls := "ChordGrammarsModel", name := "stop", desc := "(I)V" } : MethodName) ({ cls := "ChordGrammarsModel", name := "stop", desc := "(I)V" } : MethodName) ∈ wA := kS (i := 50) (by decide +kernel) rfl
theorem ks_51 : Cond.selects "ChordGrammarsModel" ({ cls := "ChordGrammarsModel", name := "rule", desc := "()V" } : MethodName) ({ cls := "ChordGrammarsModel", name := "rule", desc := "()V" } : MethodName) ∈ wA := kS (i := 51) (by decide +kernel) rfl
theorem ks_52 : Cond.selects "ChordGrammarsModel" ({ cls := "ChordGrammarsModel", name := "isItem", desc := "()Z" } : MethodName) ({ cls := "ChordGrammarsModel", name := "isItem", desc := "()Z" } : MethodName) ∈ wA := kS (i := 52) (by decide +kernel) rfl
theorem ks_53 : Cond.selects "ChordGrammarsModel" ({ cls := "ChordGrammarsModel", name := "item", desc := "()I" } : MethodName) ({ cls := "ChordGrammarsModel", name := "item", desc := "()I" } : MethodName) ∈ wA := kS (i := 53) (by decide +kernel) rfl
theorem ks_54 : Cond.selects "ChordGrammarsModel" ({ cls := "ChordGrammarsModel", name := "figures", desc := "()I" } : MethodName) ({ cls := "ChordGrammarsModel", name := "figures", desc := "()I" } : MethodName) ∈ wA := kS (i := 54) (by decide +kernel) rfl
theorem ks_55 : Cond.selects "ChordGrammarsModel" ({ cls := "ChordGrammarsModel", name := "findRings", desc := "()V" } : MethodName) ({ cls := "ChordGrammarsModel", name := "findRings", desc := "()V" } : MethodName) ∈ wA := kS (i := 55) (by decide +kernel) rfl
theorem ks_56 : Cond.selects "ChordGrammarsModel" ({ cls := "ChordGrammarsModel", name := "isUnary", desc := "(I)Z" } : MethodName) ({ cls := "ChordGrammarsModel", name := "isUnary", desc := "(I)Z" } : MethodName) ∈ wA := kS (i := 56) (by decide +kernel) rfl
theorem ks_57 : Cond.selects "ChordGrammarsModel" ({ cls := "ChordGrammarsModel", name := "fits", desc := "(III)I" } : MethodName) ({ cls := "ChordGrammarsModel", name := "fits", desc := "(III)I" } : MethodName) ∈ wA := kS (i := 57) (by decide +kernel) rfl
theorem ks_58 : Cond.selects "ChordGrammarsModel" ({ cls := "ChordGrammarsModel", name := "readSymbols", desc := "()V" } : MethodName) ({ cls := "ChordGrammarsModel", name := "readSymbols", desc := "()V" } : MethodName) ∈ wA := kS (i := 58) (by decide +kernel) rfl
theorem ks_59 : Cond.selects "ChordGrammarsModel" ({ cls := "ChordGrammarsModel", name := "degree", desc := "(I)I" } : MethodName) ({ cls := "ChordGrammarsModel", name := "degree", desc := "(I)I" } : MethodName) ∈ wA := kS (i := 59) (by decide +kernel) rfl
theorem ks_60 : Cond.selects "ChordGrammarsModel" ({ cls := "ChordGrammarsModel", name := "order", desc := "()V" } : MethodName) ({ cls := "ChordGrammarsModel", name := "order", desc := "()V" } : MethodName) ∈ wA := kS (i := 60) (by decide +kernel) rfl
theorem ks_61 : Cond.selects "ChordGrammarsModel" ({ cls := "ChordGrammarsModel", name := "nameAt", desc := "(I)I" } : MethodName) ({ cls := "ChordGrammarsModel", name := "nameAt", desc := "(I)I" } : MethodName) ∈ wA := kS (i := 61) (by decide +kernel) rfl
theorem ks_62 : Cond.selects "ChordGrammarsModel" ({ cls := "ChordGrammarsModel", name := "one", desc := "(IIII)V" } : MethodName) ({ cls := "ChordGrammarsModel", name := "one", desc := "(IIII)V" } : MethodName) ∈ wA := kS (i := 62) (by decide +kernel) rfl
theorem ks_63 : Cond.selects "ChordGrammarsModel" ({ cls := "ChordGrammarsModel", name := "itemSize", desc := "(III)I" } : MethodName) ({ cls := "ChordGrammarsModel", name := "itemSize", desc := "(III)I" } : MethodName) ∈ wA := kS (i := 63) (by decide +kernel) rfl
theorem ks_64 : Cond.selects "ChordGrammarsModel" ({ cls := "ChordGrammarsModel", name := "itemCount", desc := "(III)J" } : MethodName) ({ cls := "ChordGrammarsModel", name := "itemCount", desc := "(III)J" } : MethodName) ∈ wA := kS (i := 64) (by decide +kernel) rfl
theorem ks_65 : Cond.selects "ChordGrammarsModel" ({ cls := "ChordGrammarsModel", name := "itemCost", desc := "(IIII)I" } : MethodName) ({ cls := "ChordGrammarsModel", name := "itemCost", desc := "(IIII)I" } : MethodName) ∈ wA := kS (i := 65) (by decide +kernel) rfl
theorem ks_66 : Cond.selects "ChordGrammarsModel" ({ cls := "ChordGrammarsModel", name := "comes", desc := "(III)Z" } : MethodName) ({ cls := "ChordGrammarsModel", name := "comes", desc := "(III)Z" } : MethodName) ∈ wA := kS (i := 66) (by decide +kernel) rfl
theorem ks_67 : Cond.selects "ChordGrammarsModel" ({ cls := "ChordGrammarsModel", name := "two", desc := "(IIII)V" } : MethodName) ({ cls := "ChordGrammarsModel", name := "two", desc := "(IIII)V" } : MethodName) ∈ wA := kS (i := 67) (by decide +kernel) rfl
theorem ks_68 : Cond.selects "ChordGrammarsModel" ({ cls := "ChordGrammarsModel", name := "listed", desc := "()I" } : MethodName) ({ cls := "ChordGrammarsModel", name := "listed", desc := "()I" } : MethodName) ∈ wA := kS (i := 68) (by decide +kernel) rfl
theorem ks_69 : Cond.selects "ChordGrammarsModel" ({ cls := "ChordGrammarsModel", name := "topCell", desc := "()I" } : MethodName) ({ cls := "ChordGrammarsModel", name := "topCell", desc := "()I" } : MethodName) ∈ wA := kS (i := 69) (by decide +kernel) rfl
theorem ks_70 : Cond.selects "ChordGrammarsModel" ({ cls := "ChordGrammarsModel", name := "noReading", desc := "(I)Z" } : MethodName) ({ cls := "ChordGrammarsModel", name := "noReading", desc := "(I)Z" } : MethodName) ∈ wA := kS (i := 70) (by decide +kernel) rfl
theorem ks_71 : Cond.selects "ChordGrammarsModel" ({ cls := "ChordGrammarsModel", name := "begin", desc := "(I)V" } : MethodName) ({ cls := "ChordGrammarsModel", name := "begin", desc := "(I)V" } : MethodName) ∈ wA := kS (i := 71) (by decide +kernel) rfl
theorem ks_72 : Cond.selects "ChordGrammarsModel" ({ cls := "ChordGrammarsModel", name := "later", desc := "(IIII)V" } : MethodName) ({ cls := "ChordGrammarsModel", name := "later", desc := "(IIII)V" } : MethodName) ∈ wA := kS (i := 72) (by decide +kernel) rfl
theorem ks_73 : Cond.selects "ChordGrammarsModel" ({ cls := "ChordGrammarsModel", name := "next", desc := "()Z" } : MethodName) ({ cls := "ChordGrammarsModel", name := "next", desc := "()Z" } : MethodName) ∈ wA := kS (i := 73) (by decide +kernel) rfl
theorem ks_74 : Cond.selects "ChordGrammarsModel" ({ cls := "ChordGrammarsModel", name := "nodeChord", desc := "()I" } : MethodName) ({ cls := "ChordGrammarsModel", name := "nodeChord", desc := "()I" } : MethodName) ∈ wA := kS (i := 74) (by decide +kernel) rfl
theorem ks_75 : Cond.selects "ChordGrammarsModel" ({ cls := "ChordGrammarsModel", name := "symbolAt", desc := "(II)I" } : MethodName) ({ cls := "ChordGrammarsModel", name := "symbolAt", desc := "(II)I" } : MethodName) ∈ wA := kS (i := 75) (by decide +kernel) rfl
theorem wsIn {ws : List Cond} (ps : List Nat) (hp : ws = ps.filterMap (fun i => tables_1[i]?)) (h : ws.all goodWord = true) : ∀ w ∈ ws, w ∈ wA := by
  intro w hw
  refine List.mem_filter.mpr ⟨List.mem_append_right _ ?_, List.all_eq_true.mp h w hw⟩
  rw [hp] at hw
  obtain ⟨i, -, hi⟩ := List.mem_filterMap.mp hw
  exact List.mem_of_getElem? hi
set_option maxRecDepth 100000 in
theorem iwX0 : ∀ w ∈ u_ws RX0 TX0 7, w ∈ wA := wsIn [198, 200, 202, 204, 206, 208, 210] (by decide +kernel) (by decide +kernel)
set_option maxRecDepth 100000 in
theorem iwX1 : ∀ w ∈ u_ws RX1 TX1 2, w ∈ wA := wsIn [94, 96] (by decide +kernel) (by decide +kernel)
set_option maxRecDepth 100000 in
theorem iwX2 : ∀ w ∈ u_ws RX2 TX2 6, w ∈ wA := wsIn [129, 131, 133, 135, 137, 139] (by decide +kernel) (by decide +kernel)
set_option maxRecDepth 100000 in
theorem iwX3 : ∀ w ∈ u_ws RX3 TX3 2, w ∈ wA := wsIn [41, 43] (by decide +kernel) (by decide +kernel)
set_option maxRecDepth 100000 in
theorem iwX4 : ∀ w ∈ u_ws RX4 TX4 4, w ∈ wA := wsIn [155, 157, 159, 161] (by decide +kernel) (by decide +kernel)
set_option maxRecDepth 100000 in
theorem iwX5 : ∀ w ∈ u_ws RX5 TX5 4, w ∈ wA := wsIn [75, 77, 79, 81] (by decide +kernel) (by decide +kernel)
set_option maxRecDepth 100000 in
theorem iwX6 : ∀ w ∈ u_ws RX6 TX6 2, w ∈ wA := wsIn [182, 184] (by decide +kernel) (by decide +kernel)
set_option maxRecDepth 100000 in
theorem iwX7 : ∀ w ∈ u_ws RX7 TX7 1, w ∈ wA := wsIn [53] (by decide +kernel) (by decide +kernel)
set_option maxRecDepth 100000 in
theorem iwX8 : ∀ w ∈ u_ws RX8 TX8 13, w ∈ wA := wsIn [240, 242, 244, 246, 248, 250, 252, 254, 256, 258, 260, 262, 264] (by decide +kernel) (by decide +kernel)
set_option maxRecDepth 100000 in
theorem iwX9 : ∀ w ∈ u_ws RX9 TX9 8, w ∈ wA := wsIn [275, 277, 279, 281, 283, 285, 287, 289] (by decide +kernel) (by decide +kernel)
set_option maxRecDepth 100000 in
theorem iwX10 : ∀ w ∈ u_ws RX10 TX10 48, w ∈ wA := wsIn [839, 841, 843, 845, 847, 849, 851, 853, 855, 857, 859, 861, 863, 865, 867, 869, 871, 873, 875, 877, 879, 881, 883, 885, 887, 889, 891, 893, 895, 897, 899, 901, 903, 905, 907, 909, 911, 913, 915, 917, 919, 921, 923, 925, 927, 929, 931, 933] (by decide +kernel) (by decide +kernel)
set_option maxRecDepth 100000 in
theorem iwJx00060 : ∀ w ∈ u_ws RJx00060 TJx00060 6, w ∈ wA := wsIn [726, 728, 730, 732, 734, 779] (by decide +kernel) (by decide +kernel)
