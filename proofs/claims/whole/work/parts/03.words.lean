/-- the words that every contract stands on: those of the tables that a callee may be handed -/
def pm_T : List Cond := lw_tbl.filter goodWord
theorem pm_good : GoodIn pm_T pm_T := fun w h => ⟨h, good_of_word (List.mem_filter.mp h).2⟩
theorem pm_of_tbl {w : Cond} (h : w ∈ lw_tbl) (hg : goodWord w = true) : w ∈ pm_T := List.mem_filter.mpr ⟨h, hg⟩
theorem pm_of_tab {w : Cond} (h : w ∈ tables_1) (hg : goodWord w = true) : w ∈ pm_T := pm_of_tbl (List.mem_append_right _ h) hg
theorem pm_t1 {w : Cond} (h : w ∈ tables_1_1) (hg : goodWord w = true) : w ∈ pm_T := pm_of_tab (show w ∈ tables_1 from List.mem_append_left _ h) hg
theorem pm_t2 {w : Cond} (h : w ∈ tables_1_2) (hg : goodWord w = true) : w ∈ pm_T := pm_of_tab (show w ∈ tables_1 from List.mem_append_right _ (List.mem_append_left _ h)) hg
theorem pm_t3 {w : Cond} (h : w ∈ tables_1_3) (hg : goodWord w = true) : w ∈ pm_T := pm_of_tab (show w ∈ tables_1 from List.mem_append_right _ (List.mem_append_right _ (List.mem_append_left _ h))) hg
theorem pm_t4 {w : Cond} (h : w ∈ tables_1_4) (hg : goodWord w = true) : w ∈ pm_T := pm_of_tab (show w ∈ tables_1 from List.mem_append_right _ (List.mem_append_right _ (List.mem_append_right _ (List.mem_append_left _ h)))) hg
theorem pm_t5 {w : Cond} (h : w ∈ tables_1_5) (hg : goodWord w = true) : w ∈ pm_T := pm_of_tab (show w ∈ tables_1 from List.mem_append_right _ (List.mem_append_right _ (List.mem_append_right _ (List.mem_append_right _ (List.mem_append_left _ h))))) hg
theorem pm_t6 {w : Cond} (h : w ∈ tables_1_6) (hg : goodWord w = true) : w ∈ pm_T := pm_of_tab (show w ∈ tables_1 from List.mem_append_right _ (List.mem_append_right _ (List.mem_append_right _ (List.mem_append_right _ (List.mem_append_right _ (List.mem_append_left _ h)))))) hg
theorem pm_t7 {w : Cond} (h : w ∈ tables_1_7) (hg : goodWord w = true) : w ∈ pm_T := pm_of_tab (show w ∈ tables_1 from List.mem_append_right _ (List.mem_append_right _ (List.mem_append_right _ (List.mem_append_right _ (List.mem_append_right _ (List.mem_append_right _ (List.mem_append_left _ h))))))) hg
theorem pm_t8 {w : Cond} (h : w ∈ tables_1_8) (hg : goodWord w = true) : w ∈ pm_T := pm_of_tab (show w ∈ tables_1 from List.mem_append_right _ (List.mem_append_right _ (List.mem_append_right _ (List.mem_append_right _ (List.mem_append_right _ (List.mem_append_right _ (List.mem_append_right _ (h)))))))) hg
theorem pm_sel {q : MethodName × Nat} (h : q ∈ lw_privs) : Cond.selects q.1.cls q.1 q.1 ∈ pm_T := pm_of_tbl (List.mem_append_left _ (List.mem_map.mpr ⟨q, h, rfl⟩)) rfl
theorem w1_0 : (Cond.initialized "WriterPaceLaw") ∈ pm_T := pm_t1 (List.mem_of_getElem? (i := 0) rfl) rfl
theorem w1_1 : (Cond.initialized "WriterPace") ∈ pm_T := pm_t1 (List.mem_of_getElem? (i := 1) rfl) rfl
theorem w1_2 : (Cond.initialized "WriterPace$Host") ∈ pm_T := pm_t1 (List.mem_of_getElem? (i := 2) rfl) rfl
theorem w1_3 : (Cond.initialized "WriterPace$Laws") ∈ pm_T := pm_t1 (List.mem_of_getElem? (i := 3) rfl) rfl
theorem w1_4 : (Cond.initialized "WriterPace$Reader") ∈ pm_T := pm_t1 (List.mem_of_getElem? (i := 4) rfl) rfl
theorem w1_5 : (Cond.initialized "WriterPace$Clock") ∈ pm_T := pm_t1 (List.mem_of_getElem? (i := 5) rfl) rfl
theorem w1_6 : (Cond.initialized "WriterPace$Oracle") ∈ pm_T := pm_t1 (List.mem_of_getElem? (i := 6) rfl) rfl
theorem w1_7 : (Cond.initialized "java/util/Arrays") ∈ pm_T := pm_t1 (List.mem_of_getElem? (i := 7) rfl) rfl
theorem w1_8 : (Cond.initialized "WriterPace$State") ∈ pm_T := pm_t1 (List.mem_of_getElem? (i := 8) rfl) rfl
theorem w1_9 : (Cond.initialized "WriterPace$Drives") ∈ pm_T := pm_t1 (List.mem_of_getElem? (i := 9) rfl) rfl
theorem w1_10 : (Cond.initialized "WriterPace$Tray") ∈ pm_T := pm_t1 (List.mem_of_getElem? (i := 10) rfl) rfl
theorem w1_11 : (Cond.initialized "java/lang/System") ∈ pm_T := pm_t1 (List.mem_of_getElem? (i := 11) rfl) rfl
theorem w1_12 : (Cond.initialized "WriterPaceModel") ∈ pm_T := pm_t1 (List.mem_of_getElem? (i := 12) rfl) rfl
theorem w1_13 : (Cond.initialized "java/lang/Math") ∈ pm_T := pm_t1 (List.mem_of_getElem? (i := 13) rfl) rfl
theorem w1_14 : (Cond.initialized "java/lang/String") ∈ pm_T := pm_t1 (List.mem_of_getElem? (i := 14) rfl) rfl
theorem w1_15 : (Cond.initialized "java/lang/StringLatin1") ∈ pm_T := pm_t1 (List.mem_of_getElem? (i := 15) rfl) rfl
theorem w1_16 : (Cond.initialized "java/lang/StringUTF16") ∈ pm_T := pm_t1 (List.mem_of_getElem? (i := 16) rfl) rfl
theorem w1_17 : (Cond.initialized "jdk/internal/util/Preconditions") ∈ pm_T := pm_t1 (List.mem_of_getElem? (i := 17) rfl) rfl
theorem w1_18 : (Cond.initialized "java/lang/Character") ∈ pm_T := pm_t1 (List.mem_of_getElem? (i := 18) rfl) rfl
theorem w1_19 : (Cond.classLink "WriterPaceLaw" (7 : Nat) "WriterPace") ∈ pm_T := pm_t1 (List.mem_of_getElem? (i := 19) rfl) rfl
theorem w1_20 : (Cond.instantiable "WriterPace" (17 : Nat)) ∈ pm_T := pm_t1 (List.mem_of_getElem? (i := 20) rfl) rfl
theorem w1_21 : (Cond.methodLink "WriterPaceLaw" (9 : Nat) yX8_init) ∈ pm_T := pm_t1 (List.mem_of_getElem? (i := 21) rfl) rfl
theorem w1_22 : (Cond.instanceMethod yX8_init) ∈ pm_T := pm_t1 (List.mem_of_getElem? (i := 22) rfl) rfl
theorem w1_23 : (Cond.code yX8_init prog_1_method_1_code (2 : Nat) (Option.none : Option Jvm.ClassFile.FieldType)) ∈ pm_T := pm_t1 (List.mem_of_getElem? (i := 23) rfl) rfl
theorem w1_24 : (Cond.methodLink "WriterPace" (1 : Nat) objectInit) ∈ pm_T := pm_t1 (List.mem_of_getElem? (i := 24) rfl) rfl
theorem w1_25 : (Cond.instanceMethod objectInit) ∈ pm_T := pm_t1 (List.mem_of_getElem? (i := 25) rfl) rfl
theorem w1_26 : (Cond.code objectInit object_method_1_code (1 : Nat) (Option.none : Option Jvm.ClassFile.FieldType)) ∈ pm_T := pm_t1 (List.mem_of_getElem? (i := 26) rfl) rfl
theorem w1_27 : (Cond.classLink "WriterPace" (17 : Nat) "WriterPace$Host") ∈ pm_T := pm_t1 (List.mem_of_getElem? (i := 27) rfl) rfl
theorem w1_28 : (Cond.instantiable "WriterPace$Host" (18 : Nat)) ∈ pm_T := pm_t1 (List.mem_of_getElem? (i := 28) rfl) rfl
theorem w1_30 : (Cond.instanceMethod yX2_init) ∈ pm_T := pm_t1 (List.mem_of_getElem? (i := 30) rfl) rfl
theorem w1_31 : (Cond.code yX2_init prog_4_method_1_code (1 : Nat) (Option.none : Option Jvm.ClassFile.FieldType)) ∈ pm_T := pm_t1 (List.mem_of_getElem? (i := 31) rfl) rfl
theorem w1_32 : (Cond.methodLink "WriterPace$Host" (3 : Nat) objectInit) ∈ pm_T := pm_t1 (List.mem_of_getElem? (i := 32) rfl) rfl
theorem w1_33 : (Cond.classLink "WriterPace$Host" (64 : Nat) "WriterPace$Laws") ∈ pm_T := pm_t1 (List.mem_of_getElem? (i := 33) rfl) rfl
theorem w1_34 : (Cond.instantiable "WriterPace$Laws" (6 : Nat)) ∈ pm_T := pm_t1 (List.mem_of_getElem? (i := 34) rfl) rfl
theorem w1_36 : (Cond.instanceMethod yX3_init) ∈ pm_T := pm_t1 (List.mem_of_getElem? (i := 36) rfl) rfl
theorem w1_37 : (Cond.code yX3_init prog_5_method_1_code (1 : Nat) (Option.none : Option Jvm.ClassFile.FieldType)) ∈ pm_T := pm_t1 (List.mem_of_getElem? (i := 37) rfl) rfl
theorem w1_38 : (Cond.methodLink "WriterPace$Laws" (3 : Nat) objectInit) ∈ pm_T := pm_t1 (List.mem_of_getElem? (i := 38) rfl) rfl
theorem w1_39 : (Cond.fieldLink "WriterPace$Laws" (9 : Nat) "WriterPace$Laws" "code" "[I") ∈ pm_T := pm_t1 (List.mem_of_getElem? (i := 39) rfl) rfl
theorem w1_40 : (Cond.fieldLink "WriterPace$Oracle" (92 : Nat) "WriterPace$Laws" "code" "[I") ∈ pm_T := pm_t1 (List.mem_of_getElem? (i := 40) rfl) rfl
theorem w1_41 : (Cond.fieldLink "WriterPace$Laws" (15 : Nat) "WriterPace$Laws" "length" "I") ∈ pm_T := pm_t1 (List.mem_of_getElem? (i := 41) rfl) rfl
theorem w1_42 : (Cond.fieldLink "WriterPace$Reader" (176 : Nat) "WriterPace$Laws" "length" "I") ∈ pm_T := pm_t1 (List.mem_of_getElem? (i := 42) rfl) rfl
theorem w1_43 : (Cond.fieldLink "WriterPace$Laws" (19 : Nat) "WriterPace$Laws" "wantsFrom" "I") ∈ pm_T := pm_t1 (List.mem_of_getElem? (i := 43) rfl) rfl
theorem w1_44 : (Cond.fieldLink "WriterPace$Oracle" (42 : Nat) "WriterPace$Laws" "wantsFrom" "I") ∈ pm_T := pm_t1 (List.mem_of_getElem? (i := 44) rfl) rfl
theorem w1_45 : (Cond.fieldLink "WriterPace$Laws" (22 : Nat) "WriterPace$Laws" "wantsTo" "I") ∈ pm_T := pm_t1 (List.mem_of_getElem? (i := 45) rfl) rfl
theorem w1_46 : (Cond.fieldLink "WriterPace$Oracle" (48 : Nat) "WriterPace$Laws" "wantsTo" "I") ∈ pm_T := pm_t1 (List.mem_of_getElem? (i := 46) rfl) rfl
theorem w1_47 : (Cond.fieldLink "WriterPace$Laws" (25 : Nat) "WriterPace$Laws" "speedFrom" "I") ∈ pm_T := pm_t1 (List.mem_of_getElem? (i := 47) rfl) rfl
theorem w1_48 : (Cond.fieldLink "WriterPace$Oracle" (83 : Nat) "WriterPace$Laws" "speedFrom" "I") ∈ pm_T := pm_t1 (List.mem_of_getElem? (i := 48) rfl) rfl
theorem w1_49 : (Cond.fieldLink "WriterPace$Laws" (28 : Nat) "WriterPace$Laws" "speedTo" "I") ∈ pm_T := pm_t1 (List.mem_of_getElem? (i := 49) rfl) rfl
theorem w1_50 : (Cond.fieldLink "WriterPace$Oracle" (86 : Nat) "WriterPace$Laws" "speedTo" "I") ∈ pm_T := pm_t1 (List.mem_of_getElem? (i := 50) rfl) rfl
theorem w1_51 : (Cond.laysFinal "WriterPace$Laws" "WriterPace$Laws" "code" "[I") ∈ pm_T := pm_t1 (List.mem_of_getElem? (i := 51) rfl) rfl
theorem w1_53 : (Cond.lays "WriterPace$Laws" "WriterPace$Laws" "length" "I") ∈ pm_T := pm_t1 (List.mem_of_getElem? (i := 53) rfl) rfl
theorem w1_55 : (Cond.lays "WriterPace$Laws" "WriterPace$Laws" "wantsFrom" "I") ∈ pm_T := pm_t1 (List.mem_of_getElem? (i := 55) rfl) rfl
theorem w1_57 : (Cond.lays "WriterPace$Laws" "WriterPace$Laws" "wantsTo" "I") ∈ pm_T := pm_t1 (List.mem_of_getElem? (i := 57) rfl) rfl
theorem w1_59 : (Cond.lays "WriterPace$Laws" "WriterPace$Laws" "speedFrom" "I") ∈ pm_T := pm_t1 (List.mem_of_getElem? (i := 59) rfl) rfl
theorem w1_61 : (Cond.lays "WriterPace$Laws" "WriterPace$Laws" "speedTo" "I") ∈ pm_T := pm_t1 (List.mem_of_getElem? (i := 61) rfl) rfl
theorem w1_64 : (Cond.arrayClass Jvm.ClassFile.FieldType.byte) ∈ pm_T := pm_t1 (List.mem_of_getElem? (i := 64) rfl) rfl
theorem w1_65 : (Cond.arrayClass Jvm.ClassFile.FieldType.int) ∈ pm_T := pm_t1 (List.mem_of_getElem? (i := 65) rfl) rfl
theorem w1_66 : (Cond.fieldLink "WriterPace$Host" (9 : Nat) "WriterPace$Host" "limit" "I") ∈ pm_T := pm_t1 (List.mem_of_getElem? (i := 66) rfl) rfl
theorem w1_67 : (Cond.fieldLink "WriterPace$State" (79 : Nat) "WriterPace$Host" "limit" "I") ∈ pm_T := pm_t1 (List.mem_of_getElem? (i := 67) rfl) rfl
theorem w1_68 : (Cond.fieldLink "WriterPace$Reader" (84 : Nat) "WriterPace$Host" "limit" "I") ∈ pm_T := pm_t1 (List.mem_of_getElem? (i := 68) rfl) rfl
theorem w1_69 : (Cond.fieldLink "WriterPace" (115 : Nat) "WriterPace$Host" "limit" "I") ∈ pm_T := pm_t1 (List.mem_of_getElem? (i := 69) rfl) rfl
theorem w1_70 : (Cond.fieldLink "WriterPace$Host" (15 : Nat) "WriterPace$Host" "background" "I") ∈ pm_T := pm_t1 (List.mem_of_getElem? (i := 70) rfl) rfl
theorem w1_71 : (Cond.fieldLink "WriterPace$Reader" (88 : Nat) "WriterPace$Host" "background" "I") ∈ pm_T := pm_t1 (List.mem_of_getElem? (i := 71) rfl) rfl
theorem w1_72 : (Cond.fieldLink "WriterPace" (118 : Nat) "WriterPace$Host" "background" "I") ∈ pm_T := pm_t1 (List.mem_of_getElem? (i := 72) rfl) rfl
theorem w1_73 : (Cond.fieldLink "WriterPace$Clock" (143 : Nat) "WriterPace$Host" "background" "I") ∈ pm_T := pm_t1 (List.mem_of_getElem? (i := 73) rfl) rfl
theorem w1_74 : (Cond.fieldLink "WriterPace$Host" (18 : Nat) "WriterPace$Host" "age" "I") ∈ pm_T := pm_t1 (List.mem_of_getElem? (i := 74) rfl) rfl
theorem w1_75 : (Cond.fieldLink "WriterPace$Reader" (92 : Nat) "WriterPace$Host" "age" "I") ∈ pm_T := pm_t1 (List.mem_of_getElem? (i := 75) rfl) rfl
theorem w1_76 : (Cond.fieldLink "WriterPace" (121 : Nat) "WriterPace$Host" "age" "I") ∈ pm_T := pm_t1 (List.mem_of_getElem? (i := 76) rfl) rfl
theorem w1_77 : (Cond.fieldLink "WriterPace$Clock" (130 : Nat) "WriterPace$Host" "age" "I") ∈ pm_T := pm_t1 (List.mem_of_getElem? (i := 77) rfl) rfl
theorem w1_78 : (Cond.fieldLink "WriterPace$Host" (21 : Nat) "WriterPace$Host" "longest" "I") ∈ pm_T := pm_t1 (List.mem_of_getElem? (i := 78) rfl) rfl
theorem w1_79 : (Cond.fieldLink "WriterPace$Reader" (96 : Nat) "WriterPace$Host" "longest" "I") ∈ pm_T := pm_t1 (List.mem_of_getElem? (i := 79) rfl) rfl
theorem w1_80 : (Cond.fieldLink "WriterPace" (124 : Nat) "WriterPace$Host" "longest" "I") ∈ pm_T := pm_t1 (List.mem_of_getElem? (i := 80) rfl) rfl
theorem w1_81 : (Cond.fieldLink "WriterPace$Clock" (193 : Nat) "WriterPace$Host" "longest" "I") ∈ pm_T := pm_t1 (List.mem_of_getElem? (i := 81) rfl) rfl
theorem w1_82 : (Cond.fieldLink "WriterPace$Host" (24 : Nat) "WriterPace$Host" "window" "I") ∈ pm_T := pm_t1 (List.mem_of_getElem? (i := 82) rfl) rfl
theorem w1_83 : (Cond.fieldLink "WriterPace$Clock" (46 : Nat) "WriterPace$Host" "window" "I") ∈ pm_T := pm_t1 (List.mem_of_getElem? (i := 83) rfl) rfl
theorem w1_84 : (Cond.fieldLink "WriterPace$Reader" (101 : Nat) "WriterPace$Host" "window" "I") ∈ pm_T := pm_t1 (List.mem_of_getElem? (i := 84) rfl) rfl
theorem w1_85 : (Cond.fieldLink "WriterPace" (127 : Nat) "WriterPace$Host" "window" "I") ∈ pm_T := pm_t1 (List.mem_of_getElem? (i := 85) rfl) rfl
theorem w1_86 : (Cond.fieldLink "WriterPace$Host" (27 : Nat) "WriterPace$Host" "chunk" "I") ∈ pm_T := pm_t1 (List.mem_of_getElem? (i := 86) rfl) rfl
theorem w1_87 : (Cond.fieldLink "WriterPace$Reader" (105 : Nat) "WriterPace$Host" "chunk" "I") ∈ pm_T := pm_t1 (List.mem_of_getElem? (i := 87) rfl) rfl
theorem w1_88 : (Cond.fieldLink "WriterPace" (130 : Nat) "WriterPace$Host" "chunk" "I") ∈ pm_T := pm_t1 (List.mem_of_getElem? (i := 88) rfl) rfl
theorem w1_89 : (Cond.fieldLink "WriterPace$Clock" (120 : Nat) "WriterPace$Host" "chunk" "I") ∈ pm_T := pm_t1 (List.mem_of_getElem? (i := 89) rfl) rfl
theorem w1_90 : (Cond.fieldLink "WriterPace$Host" (30 : Nat) "WriterPace$Host" "queue" "I") ∈ pm_T := pm_t1 (List.mem_of_getElem? (i := 90) rfl) rfl
theorem w1_91 : (Cond.fieldLink "WriterPace$Reader" (109 : Nat) "WriterPace$Host" "queue" "I") ∈ pm_T := pm_t1 (List.mem_of_getElem? (i := 91) rfl) rfl
theorem w1_92 : (Cond.fieldLink "WriterPace" (133 : Nat) "WriterPace$Host" "queue" "I") ∈ pm_T := pm_t1 (List.mem_of_getElem? (i := 92) rfl) rfl
theorem w1_93 : (Cond.fieldLink "WriterPace$Clock" (108 : Nat) "WriterPace$Host" "queue" "I") ∈ pm_T := pm_t1 (List.mem_of_getElem? (i := 93) rfl) rfl
theorem w1_94 : (Cond.fieldLink "WriterPace$Host" (33 : Nat) "WriterPace$Host" "devices" "I") ∈ pm_T := pm_t1 (List.mem_of_getElem? (i := 94) rfl) rfl
theorem w1_95 : (Cond.fieldLink "WriterPace$Clock" (52 : Nat) "WriterPace$Host" "devices" "I") ∈ pm_T := pm_t1 (List.mem_of_getElem? (i := 95) rfl) rfl
theorem w1_96 : (Cond.fieldLink "WriterPace$Reader" (148 : Nat) "WriterPace$Host" "devices" "I") ∈ pm_T := pm_t1 (List.mem_of_getElem? (i := 96) rfl) rfl
theorem w1_97 : (Cond.fieldLink "WriterPace" (334 : Nat) "WriterPace$Host" "devices" "I") ∈ pm_T := pm_t1 (List.mem_of_getElem? (i := 97) rfl) rfl
theorem w1_98 : (Cond.fieldLink "WriterPace$Host" (36 : Nat) "WriterPace$Host" "files" "I") ∈ pm_T := pm_t1 (List.mem_of_getElem? (i := 98) rfl) rfl
theorem w1_99 : (Cond.fieldLink "WriterPace$Reader" (155 : Nat) "WriterPace$Host" "files" "I") ∈ pm_T := pm_t1 (List.mem_of_getElem? (i := 99) rfl) rfl
theorem w1_100 : (Cond.fieldLink "WriterPace" (183 : Nat) "WriterPace$Host" "files" "I") ∈ pm_T := pm_t1 (List.mem_of_getElem? (i := 100) rfl) rfl
theorem w1_101 : (Cond.fieldLink "WriterPace$Clock" (133 : Nat) "WriterPace$Host" "files" "I") ∈ pm_T := pm_t1 (List.mem_of_getElem? (i := 101) rfl) rfl
theorem w1_102 : (Cond.fieldLink "WriterPace$Host" (39 : Nat) "WriterPace$Host" "writers" "I") ∈ pm_T := pm_t1 (List.mem_of_getElem? (i := 102) rfl) rfl
theorem w1_103 : (Cond.fieldLink "WriterPace$Clock" (33 : Nat) "WriterPace$Host" "writers" "I") ∈ pm_T := pm_t1 (List.mem_of_getElem? (i := 103) rfl) rfl
theorem w1_104 : (Cond.fieldLink "WriterPace$Reader" (163 : Nat) "WriterPace$Host" "writers" "I") ∈ pm_T := pm_t1 (List.mem_of_getElem? (i := 104) rfl) rfl
theorem w1_105 : (Cond.fieldLink "WriterPace" (301 : Nat) "WriterPace$Host" "writers" "I") ∈ pm_T := pm_t1 (List.mem_of_getElem? (i := 105) rfl) rfl
theorem w1_106 : (Cond.fieldLink "WriterPace$Host" (42 : Nat) "WriterPace$Host" "lines" "I") ∈ pm_T := pm_t1 (List.mem_of_getElem? (i := 106) rfl) rfl
theorem w1_107 : (Cond.fieldLink "WriterPace" (109 : Nat) "WriterPace$Host" "lines" "I") ∈ pm_T := pm_t1 (List.mem_of_getElem? (i := 107) rfl) rfl
theorem w1_108 : (Cond.fieldLink "WriterPace$Reader" (111 : Nat) "WriterPace$Host" "lines" "I") ∈ pm_T := pm_t1 (List.mem_of_getElem? (i := 108) rfl) rfl
theorem w1_109 : (Cond.fieldLink "WriterPace$Host" (45 : Nat) "WriterPace$Host" "speeds" "[I") ∈ pm_T := pm_t1 (List.mem_of_getElem? (i := 109) rfl) rfl
theorem w1_110 : (Cond.fieldLink "WriterPace$Drives" (46 : Nat) "WriterPace$Host" "speeds" "[I") ∈ pm_T := pm_t1 (List.mem_of_getElem? (i := 110) rfl) rfl
theorem w1_111 : (Cond.fieldLink "WriterPace$Host" (49 : Nat) "WriterPace$Host" "writersOn" "[I") ∈ pm_T := pm_t1 (List.mem_of_getElem? (i := 111) rfl) rfl
theorem w1_112 : (Cond.fieldLink "WriterPace$Clock" (190 : Nat) "WriterPace$Host" "writersOn" "[I") ∈ pm_T := pm_t1 (List.mem_of_getElem? (i := 112) rfl) rfl
theorem w1_113 : (Cond.fieldLink "WriterPace$Host" (52 : Nat) "WriterPace$Host" "deviceOfFile" "[I") ∈ pm_T := pm_t1 (List.mem_of_getElem? (i := 113) rfl) rfl
theorem w1_114 : (Cond.fieldLink "WriterPace" (186 : Nat) "WriterPace$Host" "deviceOfFile" "[I") ∈ pm_T := pm_t1 (List.mem_of_getElem? (i := 114) rfl) rfl
theorem w1_115 : (Cond.fieldLink "WriterPace$Clock" (136 : Nat) "WriterPace$Host" "deviceOfFile" "[I") ∈ pm_T := pm_t1 (List.mem_of_getElem? (i := 115) rfl) rfl
theorem w1_116 : (Cond.fieldLink "WriterPace$Host" (55 : Nat) "WriterPace$Host" "fileOfWriter" "[I") ∈ pm_T := pm_t1 (List.mem_of_getElem? (i := 116) rfl) rfl
theorem w1_117 : (Cond.fieldLink "WriterPace" (201 : Nat) "WriterPace$Host" "fileOfWriter" "[I") ∈ pm_T := pm_t1 (List.mem_of_getElem? (i := 117) rfl) rfl
theorem w1_118 : (Cond.fieldLink "WriterPace$Clock" (161 : Nat) "WriterPace$Host" "fileOfWriter" "[I") ∈ pm_T := pm_t1 (List.mem_of_getElem? (i := 118) rfl) rfl
theorem w1_119 : (Cond.fieldLink "WriterPace$Host" (58 : Nat) "WriterPace$Host" "deviceOfWriter" "[I") ∈ pm_T := pm_t1 (List.mem_of_getElem? (i := 119) rfl) rfl
theorem w1_120 : (Cond.fieldLink "WriterPace$Oracle" (58 : Nat) "WriterPace$Host" "deviceOfWriter" "[I") ∈ pm_T := pm_t1 (List.mem_of_getElem? (i := 120) rfl) rfl
theorem w1_121 : (Cond.fieldLink "WriterPace$Clock" (164 : Nat) "WriterPace$Host" "deviceOfWriter" "[I") ∈ pm_T := pm_t1 (List.mem_of_getElem? (i := 121) rfl) rfl
theorem w1_122 : (Cond.fieldLink "WriterPace$Host" (61 : Nat) "WriterPace$Host" "wanted" "[I") ∈ pm_T := pm_t1 (List.mem_of_getElem? (i := 122) rfl) rfl
theorem w1_123 : (Cond.fieldLink "WriterPace$State" (70 : Nat) "WriterPace$Host" "wanted" "[I") ∈ pm_T := pm_t1 (List.mem_of_getElem? (i := 123) rfl) rfl
theorem w1_124 : (Cond.fieldLink "WriterPace$Host" (67 : Nat) "WriterPace$Host" "laws" "LWriterPace$Laws;") ∈ pm_T := pm_t1 (List.mem_of_getElem? (i := 124) rfl) rfl
theorem w1_125 : (Cond.fieldLink "WriterPace$Oracle" (36 : Nat) "WriterPace$Host" "laws" "LWriterPace$Laws;") ∈ pm_T := pm_t1 (List.mem_of_getElem? (i := 125) rfl) rfl
theorem w1_126 : (Cond.fieldLink "WriterPace$Reader" (172 : Nat) "WriterPace$Host" "laws" "LWriterPace$Laws;") ∈ pm_T := pm_t1 (List.mem_of_getElem? (i := 126) rfl) rfl
theorem w1_127 : (Cond.lays "WriterPace$Host" "WriterPace$Host" "limit" "I") ∈ pm_T := pm_t1 (List.mem_of_getElem? (i := 127) rfl) rfl
theorem w1_129 : (Cond.lays "WriterPace$Host" "WriterPace$Host" "background" "I") ∈ pm_T := pm_t1 (List.mem_of_getElem? (i := 129) rfl) rfl
theorem w1_131 : (Cond.lays "WriterPace$Host" "WriterPace$Host" "age" "I") ∈ pm_T := pm_t1 (List.mem_of_getElem? (i := 131) rfl) rfl
theorem w1_133 : (Cond.lays "WriterPace$Host" "WriterPace$Host" "longest" "I") ∈ pm_T := pm_t1 (List.mem_of_getElem? (i := 133) rfl) rfl
theorem w1_135 : (Cond.lays "WriterPace$Host" "WriterPace$Host" "window" "I") ∈ pm_T := pm_t1 (List.mem_of_getElem? (i := 135) rfl) rfl
theorem w1_137 : (Cond.lays "WriterPace$Host" "WriterPace$Host" "chunk" "I") ∈ pm_T := pm_t1 (List.mem_of_getElem? (i := 137) rfl) rfl
theorem w1_139 : (Cond.lays "WriterPace$Host" "WriterPace$Host" "queue" "I") ∈ pm_T := pm_t1 (List.mem_of_getElem? (i := 139) rfl) rfl
theorem w1_141 : (Cond.lays "WriterPace$Host" "WriterPace$Host" "devices" "I") ∈ pm_T := pm_t1 (List.mem_of_getElem? (i := 141) rfl) rfl
theorem w1_143 : (Cond.lays "WriterPace$Host" "WriterPace$Host" "files" "I") ∈ pm_T := pm_t1 (List.mem_of_getElem? (i := 143) rfl) rfl
theorem w1_145 : (Cond.lays "WriterPace$Host" "WriterPace$Host" "writers" "I") ∈ pm_T := pm_t1 (List.mem_of_getElem? (i := 145) rfl) rfl
theorem w1_147 : (Cond.lays "WriterPace$Host" "WriterPace$Host" "lines" "I") ∈ pm_T := pm_t1 (List.mem_of_getElem? (i := 147) rfl) rfl
theorem w1_149 : (Cond.laysFinal "WriterPace$Host" "WriterPace$Host" "speeds" "[I") ∈ pm_T := pm_t1 (List.mem_of_getElem? (i := 149) rfl) rfl
theorem w1_151 : (Cond.laysFinal "WriterPace$Host" "WriterPace$Host" "writersOn" "[I") ∈ pm_T := pm_t1 (List.mem_of_getElem? (i := 151) rfl) rfl
theorem w1_153 : (Cond.laysFinal "WriterPace$Host" "WriterPace$Host" "deviceOfFile" "[I") ∈ pm_T := pm_t1 (List.mem_of_getElem? (i := 153) rfl) rfl
theorem w1_155 : (Cond.laysFinal "WriterPace$Host" "WriterPace$Host" "fileOfWriter" "[I") ∈ pm_T := pm_t1 (List.mem_of_getElem? (i := 155) rfl) rfl
theorem w1_157 : (Cond.laysFinal "WriterPace$Host" "WriterPace$Host" "deviceOfWriter" "[I") ∈ pm_T := pm_t1 (List.mem_of_getElem? (i := 157) rfl) rfl
theorem w1_159 : (Cond.laysFinal "WriterPace$Host" "WriterPace$Host" "wanted" "[I") ∈ pm_T := pm_t1 (List.mem_of_getElem? (i := 159) rfl) rfl
theorem w1_161 : (Cond.laysFinal "WriterPace$Host" "WriterPace$Host" "laws" "LWriterPace$Laws;") ∈ pm_T := pm_t1 (List.mem_of_getElem? (i := 161) rfl) rfl
theorem w1_164 : (Cond.classLink "WriterPace" (24 : Nat) "WriterPace$Reader") ∈ pm_T := pm_t1 (List.mem_of_getElem? (i := 164) rfl) rfl
theorem w1_165 : (Cond.instantiable "WriterPace$Reader" (12 : Nat)) ∈ pm_T := pm_t1 (List.mem_of_getElem? (i := 165) rfl) rfl
theorem w1_166 : (Cond.methodLink "WriterPace" (26 : Nat) yX5_init) ∈ pm_T := pm_t1 (List.mem_of_getElem? (i := 166) rfl) rfl
theorem w1_167 : (Cond.instanceMethod yX5_init) ∈ pm_T := pm_t1 (List.mem_of_getElem? (i := 167) rfl) rfl
theorem w1_168 : (Cond.code yX5_init prog_7_method_1_code (3 : Nat) (Option.none : Option Jvm.ClassFile.FieldType)) ∈ pm_T := pm_t1 (List.mem_of_getElem? (i := 168) rfl) rfl
theorem w1_169 : (Cond.methodLink "WriterPace$Reader" (3 : Nat) objectInit) ∈ pm_T := pm_t1 (List.mem_of_getElem? (i := 169) rfl) rfl
theorem w1_170 : (Cond.fieldLink "WriterPace$Reader" (9 : Nat) "WriterPace$Reader" "fault" "I") ∈ pm_T := pm_t1 (List.mem_of_getElem? (i := 170) rfl) rfl
theorem w1_171 : (Cond.fieldLink "WriterPace" (100 : Nat) "WriterPace$Reader" "fault" "I") ∈ pm_T := pm_t1 (List.mem_of_getElem? (i := 171) rfl) rfl
theorem w1_172 : (Cond.fieldLink "WriterPace$Reader" (15 : Nat) "WriterPace$Reader" "place" "I") ∈ pm_T := pm_t1 (List.mem_of_getElem? (i := 172) rfl) rfl
theorem w1_173 : (Cond.fieldLink "WriterPace" (112 : Nat) "WriterPace$Reader" "place" "I") ∈ pm_T := pm_t1 (List.mem_of_getElem? (i := 173) rfl) rfl
theorem w1_174 : (Cond.fieldLink "WriterPace$Reader" (43 : Nat) "WriterPace$Reader" "text" "[B") ∈ pm_T := pm_t1 (List.mem_of_getElem? (i := 174) rfl) rfl
theorem w1_175 : (Cond.fieldLink "WriterPace$Reader" (47 : Nat) "WriterPace$Reader" "into" "LWriterPace$Host;") ∈ pm_T := pm_t1 (List.mem_of_getElem? (i := 175) rfl) rfl
theorem w1_176 : (Cond.fieldLink "WriterPace$Reader" (18 : Nat) "WriterPace$Reader" "length" "I") ∈ pm_T := pm_t1 (List.mem_of_getElem? (i := 176) rfl) rfl
theorem w1_177 : (Cond.fieldLink "WriterPace$Reader" (21 : Nat) "WriterPace$Reader" "kind" "I") ∈ pm_T := pm_t1 (List.mem_of_getElem? (i := 177) rfl) rfl
theorem w1_178 : (Cond.fieldLink "WriterPace$Reader" (24 : Nat) "WriterPace$Reader" "start" "I") ∈ pm_T := pm_t1 (List.mem_of_getElem? (i := 178) rfl) rfl
theorem w1_179 : (Cond.fieldLink "WriterPace$Reader" (27 : Nat) "WriterPace$Reader" "stop" "I") ∈ pm_T := pm_t1 (List.mem_of_getElem? (i := 179) rfl) rfl
theorem w1_180 : (Cond.fieldLink "WriterPace$Reader" (30 : Nat) "WriterPace$Reader" "number" "I") ∈ pm_T := pm_t1 (List.mem_of_getElem? (i := 180) rfl) rfl
theorem w1_181 : (Cond.fieldLink "WriterPace$Reader" (33 : Nat) "WriterPace$Reader" "taken" "I") ∈ pm_T := pm_t1 (List.mem_of_getElem? (i := 181) rfl) rfl
theorem w1_182 : (Cond.fieldLink "WriterPace$Reader" (36 : Nat) "WriterPace$Reader" "depth" "I") ∈ pm_T := pm_t1 (List.mem_of_getElem? (i := 182) rfl) rfl
theorem w1_183 : (Cond.fieldLink "WriterPace$Reader" (39 : Nat) "WriterPace$Reader" "inWants" "Z") ∈ pm_T := pm_t1 (List.mem_of_getElem? (i := 183) rfl) rfl
theorem w1_184 : (Cond.lays "WriterPace$Reader" "WriterPace$Reader" "fault" "I") ∈ pm_T := pm_t1 (List.mem_of_getElem? (i := 184) rfl) rfl
theorem w1_186 : (Cond.lays "WriterPace$Reader" "WriterPace$Reader" "place" "I") ∈ pm_T := pm_t1 (List.mem_of_getElem? (i := 186) rfl) rfl
theorem w1_188 : (Cond.laysFinal "WriterPace$Reader" "WriterPace$Reader" "text" "[B") ∈ pm_T := pm_t1 (List.mem_of_getElem? (i := 188) rfl) rfl
theorem w1_190 : (Cond.laysFinal "WriterPace$Reader" "WriterPace$Reader" "into" "LWriterPace$Host;") ∈ pm_T := pm_t1 (List.mem_of_getElem? (i := 190) rfl) rfl
theorem w1_192 : (Cond.lays "WriterPace$Reader" "WriterPace$Reader" "length" "I") ∈ pm_T := pm_t1 (List.mem_of_getElem? (i := 192) rfl) rfl
theorem w1_194 : (Cond.lays "WriterPace$Reader" "WriterPace$Reader" "kind" "I") ∈ pm_T := pm_t1 (List.mem_of_getElem? (i := 194) rfl) rfl
theorem w1_196 : (Cond.lays "WriterPace$Reader" "WriterPace$Reader" "start" "I") ∈ pm_T := pm_t1 (List.mem_of_getElem? (i := 196) rfl) rfl
theorem w1_198 : (Cond.lays "WriterPace$Reader" "WriterPace$Reader" "stop" "I") ∈ pm_T := pm_t1 (List.mem_of_getElem? (i := 198) rfl) rfl
theorem w1_200 : (Cond.lays "WriterPace$Reader" "WriterPace$Reader" "number" "I") ∈ pm_T := pm_t1 (List.mem_of_getElem? (i := 200) rfl) rfl
theorem w1_202 : (Cond.lays "WriterPace$Reader" "WriterPace$Reader" "taken" "I") ∈ pm_T := pm_t1 (List.mem_of_getElem? (i := 202) rfl) rfl
theorem w1_204 : (Cond.lays "WriterPace$Reader" "WriterPace$Reader" "depth" "I") ∈ pm_T := pm_t1 (List.mem_of_getElem? (i := 204) rfl) rfl
theorem w1_206 : (Cond.lays "WriterPace$Reader" "WriterPace$Reader" "inWants" "Z") ∈ pm_T := pm_t1 (List.mem_of_getElem? (i := 206) rfl) rfl
theorem w1_209 : (Cond.classLink "WriterPace" (36 : Nat) "WriterPace$Clock") ∈ pm_T := pm_t1 (List.mem_of_getElem? (i := 209) rfl) rfl
theorem w1_210 : (Cond.instantiable "WriterPace$Clock" (2 : Nat)) ∈ pm_T := pm_t1 (List.mem_of_getElem? (i := 210) rfl) rfl
theorem w1_211 : (Cond.methodLink "WriterPace" (38 : Nat) yX0_init) ∈ pm_T := pm_t1 (List.mem_of_getElem? (i := 211) rfl) rfl
theorem w1_212 : (Cond.instanceMethod yX0_init) ∈ pm_T := pm_t1 (List.mem_of_getElem? (i := 212) rfl) rfl
theorem w1_213 : (Cond.code yX0_init prog_2_method_1_code (2 : Nat) (Option.none : Option Jvm.ClassFile.FieldType)) ∈ pm_T := pm_t1 (List.mem_of_getElem? (i := 213) rfl) rfl
theorem w1_214 : (Cond.methodLink "WriterPace$Clock" (3 : Nat) objectInit) ∈ pm_T := pm_t1 (List.mem_of_getElem? (i := 214) rfl) rfl
theorem w1_215 : (Cond.classLink "WriterPace$Clock" (15 : Nat) "WriterPace$Oracle") ∈ pm_T := pm_t1 (List.mem_of_getElem? (i := 215) rfl) rfl
theorem w1_216 : (Cond.instantiable "WriterPace$Oracle" (4 : Nat)) ∈ pm_T := pm_t1 (List.mem_of_getElem? (i := 216) rfl) rfl
theorem w1_217 : (Cond.methodLink "WriterPace$Clock" (17 : Nat) yX4_init) ∈ pm_T := pm_t1 (List.mem_of_getElem? (i := 217) rfl) rfl
theorem w1_218 : (Cond.instanceMethod yX4_init) ∈ pm_T := pm_t1 (List.mem_of_getElem? (i := 218) rfl) rfl
theorem w1_219 : (Cond.code yX4_init prog_6_method_1_code (2 : Nat) (Option.none : Option Jvm.ClassFile.FieldType)) ∈ pm_T := pm_t1 (List.mem_of_getElem? (i := 219) rfl) rfl
theorem w1_220 : (Cond.methodLink "WriterPace$Oracle" (3 : Nat) objectInit) ∈ pm_T := pm_t1 (List.mem_of_getElem? (i := 220) rfl) rfl
theorem w1_221 : (Cond.methodLink "WriterPace$Oracle" (25 : Nat) yJ7_fill_53178) ∈ pm_T := pm_t1 (List.mem_of_getElem? (i := 221) rfl) rfl
theorem w1_222 : (Cond.static yJ7_fill_53178) ∈ pm_T := pm_t1 (List.mem_of_getElem? (i := 222) rfl) rfl
theorem w1_223 : (Cond.code yJ7_fill_53178 prog_18_method_103_code (4 : Nat) (Option.none : Option Jvm.ClassFile.FieldType)) ∈ pm_T := pm_t1 (List.mem_of_getElem? (i := 223) rfl) rfl
theorem w1_224 : (Cond.fieldLink "WriterPace$Oracle" (21 : Nat) "WriterPace$Oracle" "host" "LWriterPace$Host;") ∈ pm_T := pm_t1 (List.mem_of_getElem? (i := 224) rfl) rfl
theorem w1_225 : (Cond.fieldLink "WriterPace$Oracle" (9 : Nat) "WriterPace$Oracle" "answers" "[I") ∈ pm_T := pm_t1 (List.mem_of_getElem? (i := 225) rfl) rfl
theorem w1_226 : (Cond.fieldLink "WriterPace$Oracle" (15 : Nat) "WriterPace$Oracle" "toldThen" "[I") ∈ pm_T := pm_t1 (List.mem_of_getElem? (i := 226) rfl) rfl
theorem w1_227 : (Cond.fieldLink "WriterPace$Oracle" (18 : Nat) "WriterPace$Oracle" "stack" "[I") ∈ pm_T := pm_t1 (List.mem_of_getElem? (i := 227) rfl) rfl
theorem w1_228 : (Cond.laysFinal "WriterPace$Oracle" "WriterPace$Oracle" "host" "LWriterPace$Host;") ∈ pm_T := pm_t1 (List.mem_of_getElem? (i := 228) rfl) rfl
theorem w1_230 : (Cond.laysFinal "WriterPace$Oracle" "WriterPace$Oracle" "answers" "[I") ∈ pm_T := pm_t1 (List.mem_of_getElem? (i := 230) rfl) rfl
theorem w1_232 : (Cond.laysFinal "WriterPace$Oracle" "WriterPace$Oracle" "toldThen" "[I") ∈ pm_T := pm_t1 (List.mem_of_getElem? (i := 232) rfl) rfl
theorem w1_234 : (Cond.laysFinal "WriterPace$Oracle" "WriterPace$Oracle" "stack" "[I") ∈ pm_T := pm_t1 (List.mem_of_getElem? (i := 234) rfl) rfl
theorem w1_237 : (Cond.fieldLink "WriterPace$Clock" (9 : Nat) "WriterPace$Clock" "host" "LWriterPace$Host;") ∈ pm_T := pm_t1 (List.mem_of_getElem? (i := 237) rfl) rfl
theorem w1_238 : (Cond.fieldLink "WriterPace$Clock" (20 : Nat) "WriterPace$Clock" "oracle" "LWriterPace$Oracle;") ∈ pm_T := pm_t1 (List.mem_of_getElem? (i := 238) rfl) rfl
theorem w1_239 : (Cond.laysFinal "WriterPace$Clock" "WriterPace$Clock" "host" "LWriterPace$Host;") ∈ pm_T := pm_t1 (List.mem_of_getElem? (i := 239) rfl) rfl
theorem w2_1 : (Cond.laysFinal "WriterPace$Clock" "WriterPace$Clock" "oracle" "LWriterPace$Oracle;") ∈ pm_T := pm_t2 (List.mem_of_getElem? (i := 1) rfl) rfl
theorem w2_4 : (Cond.classLink "WriterPace" (45 : Nat) "WriterPace$State") ∈ pm_T := pm_t2 (List.mem_of_getElem? (i := 4) rfl) rfl
theorem w2_5 : (Cond.instantiable "WriterPace$State" (14 : Nat)) ∈ pm_T := pm_t2 (List.mem_of_getElem? (i := 5) rfl) rfl
theorem w2_7 : (Cond.instanceMethod yX6_init) ∈ pm_T := pm_t2 (List.mem_of_getElem? (i := 7) rfl) rfl
theorem w2_8 : (Cond.code yX6_init prog_8_method_1_code (1 : Nat) (Option.none : Option Jvm.ClassFile.FieldType)) ∈ pm_T := pm_t2 (List.mem_of_getElem? (i := 8) rfl) rfl
theorem w2_9 : (Cond.methodLink "WriterPace$State" (3 : Nat) objectInit) ∈ pm_T := pm_t2 (List.mem_of_getElem? (i := 9) rfl) rfl
theorem w2_10 : (Cond.classLink "WriterPace$State" (9 : Nat) "WriterPace$Drives") ∈ pm_T := pm_t2 (List.mem_of_getElem? (i := 10) rfl) rfl
theorem w2_11 : (Cond.instantiable "WriterPace$Drives" (9 : Nat)) ∈ pm_T := pm_t2 (List.mem_of_getElem? (i := 11) rfl) rfl
theorem w2_13 : (Cond.instanceMethod yX1_init) ∈ pm_T := pm_t2 (List.mem_of_getElem? (i := 13) rfl) rfl
theorem w2_14 : (Cond.code yX1_init prog_3_method_1_code (1 : Nat) (Option.none : Option Jvm.ClassFile.FieldType)) ∈ pm_T := pm_t2 (List.mem_of_getElem? (i := 14) rfl) rfl
theorem w2_15 : (Cond.methodLink "WriterPace$Drives" (3 : Nat) objectInit) ∈ pm_T := pm_t2 (List.mem_of_getElem? (i := 15) rfl) rfl
theorem w2_16 : (Cond.fieldLink "WriterPace$Drives" (9 : Nat) "WriterPace$Drives" "speed" "[I") ∈ pm_T := pm_t2 (List.mem_of_getElem? (i := 16) rfl) rfl
theorem w2_17 : (Cond.fieldLink "WriterPace$Oracle" (78 : Nat) "WriterPace$Drives" "speed" "[I") ∈ pm_T := pm_t2 (List.mem_of_getElem? (i := 17) rfl) rfl
theorem w2_18 : (Cond.fieldLink "WriterPace" (149 : Nat) "WriterPace$Drives" "speed" "[I") ∈ pm_T := pm_t2 (List.mem_of_getElem? (i := 18) rfl) rfl
theorem w2_19 : (Cond.fieldLink "WriterPace$Drives" (15 : Nat) "WriterPace$Drives" "inFlight" "[I") ∈ pm_T := pm_t2 (List.mem_of_getElem? (i := 19) rfl) rfl
theorem w2_20 : (Cond.fieldLink "WriterPace$Clock" (79 : Nat) "WriterPace$Drives" "inFlight" "[I") ∈ pm_T := pm_t2 (List.mem_of_getElem? (i := 20) rfl) rfl
theorem w2_21 : (Cond.fieldLink "WriterPace" (155 : Nat) "WriterPace$Drives" "inFlight" "[I") ∈ pm_T := pm_t2 (List.mem_of_getElem? (i := 21) rfl) rfl
theorem w2_22 : (Cond.fieldLink "WriterPace$Drives" (18 : Nat) "WriterPace$Drives" "dirty" "[I") ∈ pm_T := pm_t2 (List.mem_of_getElem? (i := 22) rfl) rfl
theorem w2_23 : (Cond.fieldLink "WriterPace$State" (84 : Nat) "WriterPace$Drives" "dirty" "[I") ∈ pm_T := pm_t2 (List.mem_of_getElem? (i := 23) rfl) rfl
theorem w2_24 : (Cond.fieldLink "WriterPace" (158 : Nat) "WriterPace$Drives" "dirty" "[I") ∈ pm_T := pm_t2 (List.mem_of_getElem? (i := 24) rfl) rfl
theorem w2_25 : (Cond.fieldLink "WriterPace$Clock" (126 : Nat) "WriterPace$Drives" "dirty" "[I") ∈ pm_T := pm_t2 (List.mem_of_getElem? (i := 25) rfl) rfl
theorem w2_26 : (Cond.fieldLink "WriterPace$Drives" (21 : Nat) "WriterPace$Drives" "credit" "[I") ∈ pm_T := pm_t2 (List.mem_of_getElem? (i := 26) rfl) rfl
theorem w2_27 : (Cond.fieldLink "WriterPace$Clock" (69 : Nat) "WriterPace$Drives" "credit" "[I") ∈ pm_T := pm_t2 (List.mem_of_getElem? (i := 27) rfl) rfl
theorem w2_28 : (Cond.fieldLink "WriterPace" (161 : Nat) "WriterPace$Drives" "credit" "[I") ∈ pm_T := pm_t2 (List.mem_of_getElem? (i := 28) rfl) rfl
theorem w2_29 : (Cond.fieldLink "WriterPace$Drives" (24 : Nat) "WriterPace$Drives" "estimate" "[D") ∈ pm_T := pm_t2 (List.mem_of_getElem? (i := 29) rfl) rfl
theorem w2_30 : (Cond.fieldLink "WriterPace$Clock" (100 : Nat) "WriterPace$Drives" "estimate" "[D") ∈ pm_T := pm_t2 (List.mem_of_getElem? (i := 30) rfl) rfl
theorem w2_31 : (Cond.fieldLink "WriterPace" (164 : Nat) "WriterPace$Drives" "estimate" "[D") ∈ pm_T := pm_t2 (List.mem_of_getElem? (i := 31) rfl) rfl
theorem w2_32 : (Cond.fieldLink "WriterPace$Drives" (28 : Nat) "WriterPace$Drives" "counted" "[I") ∈ pm_T := pm_t2 (List.mem_of_getElem? (i := 32) rfl) rfl
theorem w2_33 : (Cond.fieldLink "WriterPace$Clock" (97 : Nat) "WriterPace$Drives" "counted" "[I") ∈ pm_T := pm_t2 (List.mem_of_getElem? (i := 33) rfl) rfl
theorem w2_34 : (Cond.fieldLink "WriterPace" (170 : Nat) "WriterPace$Drives" "counted" "[I") ∈ pm_T := pm_t2 (List.mem_of_getElem? (i := 34) rfl) rfl
theorem w2_35 : (Cond.fieldLink "WriterPace$Drives" (31 : Nat) "WriterPace$Drives" "wroteInAll" "[I") ∈ pm_T := pm_t2 (List.mem_of_getElem? (i := 35) rfl) rfl
theorem w2_36 : (Cond.fieldLink "WriterPace$Clock" (88 : Nat) "WriterPace$Drives" "wroteInAll" "[I") ∈ pm_T := pm_t2 (List.mem_of_getElem? (i := 36) rfl) rfl
theorem w2_37 : (Cond.fieldLink "WriterPace$State" (89 : Nat) "WriterPace$Drives" "wroteInAll" "[I") ∈ pm_T := pm_t2 (List.mem_of_getElem? (i := 37) rfl) rfl
theorem w2_38 : (Cond.fieldLink "WriterPace" (177 : Nat) "WriterPace$Drives" "wroteInAll" "[I") ∈ pm_T := pm_t2 (List.mem_of_getElem? (i := 38) rfl) rfl
theorem w2_39 : (Cond.fieldLink "WriterPace$Drives" (34 : Nat) "WriterPace$Drives" "wroteInWindow" "[I") ∈ pm_T := pm_t2 (List.mem_of_getElem? (i := 39) rfl) rfl
theorem w2_40 : (Cond.fieldLink "WriterPace$Clock" (91 : Nat) "WriterPace$Drives" "wroteInWindow" "[I") ∈ pm_T := pm_t2 (List.mem_of_getElem? (i := 40) rfl) rfl
theorem w2_41 : (Cond.fieldLink "WriterPace" (180 : Nat) "WriterPace$Drives" "wroteInWindow" "[I") ∈ pm_T := pm_t2 (List.mem_of_getElem? (i := 41) rfl) rfl
theorem w2_42 : (Cond.fieldLink "WriterPace$Drives" (37 : Nat) "WriterPace$Drives" "takenByTurn" "[I") ∈ pm_T := pm_t2 (List.mem_of_getElem? (i := 42) rfl) rfl
theorem w2_43 : (Cond.fieldLink "WriterPace$Clock" (117 : Nat) "WriterPace$Drives" "takenByTurn" "[I") ∈ pm_T := pm_t2 (List.mem_of_getElem? (i := 43) rfl) rfl
theorem w2_44 : (Cond.laysFinal "WriterPace$Drives" "WriterPace$Drives" "speed" "[I") ∈ pm_T := pm_t2 (List.mem_of_getElem? (i := 44) rfl) rfl
theorem w2_46 : (Cond.laysFinal "WriterPace$Drives" "WriterPace$Drives" "inFlight" "[I") ∈ pm_T := pm_t2 (List.mem_of_getElem? (i := 46) rfl) rfl
theorem w2_48 : (Cond.laysFinal "WriterPace$Drives" "WriterPace$Drives" "dirty" "[I") ∈ pm_T := pm_t2 (List.mem_of_getElem? (i := 48) rfl) rfl
theorem w2_50 : (Cond.laysFinal "WriterPace$Drives" "WriterPace$Drives" "credit" "[I") ∈ pm_T := pm_t2 (List.mem_of_getElem? (i := 50) rfl) rfl
theorem w2_52 : (Cond.laysFinal "WriterPace$Drives" "WriterPace$Drives" "estimate" "[D") ∈ pm_T := pm_t2 (List.mem_of_getElem? (i := 52) rfl) rfl
theorem w2_54 : (Cond.laysFinal "WriterPace$Drives" "WriterPace$Drives" "counted" "[I") ∈ pm_T := pm_t2 (List.mem_of_getElem? (i := 54) rfl) rfl
theorem w2_56 : (Cond.laysFinal "WriterPace$Drives" "WriterPace$Drives" "wroteInAll" "[I") ∈ pm_T := pm_t2 (List.mem_of_getElem? (i := 56) rfl) rfl
theorem w2_58 : (Cond.laysFinal "WriterPace$Drives" "WriterPace$Drives" "wroteInWindow" "[I") ∈ pm_T := pm_t2 (List.mem_of_getElem? (i := 58) rfl) rfl
theorem w2_60 : (Cond.laysFinal "WriterPace$Drives" "WriterPace$Drives" "takenByTurn" "[I") ∈ pm_T := pm_t2 (List.mem_of_getElem? (i := 60) rfl) rfl
theorem w2_63 : (Cond.arrayClass Jvm.ClassFile.FieldType.double) ∈ pm_T := pm_t2 (List.mem_of_getElem? (i := 63) rfl) rfl
theorem w2_64 : (Cond.fieldLink "WriterPace$State" (12 : Nat) "WriterPace$State" "drives" "LWriterPace$Drives;") ∈ pm_T := pm_t2 (List.mem_of_getElem? (i := 64) rfl) rfl
theorem w2_65 : (Cond.fieldLink "WriterPace$Clock" (62 : Nat) "WriterPace$State" "drives" "LWriterPace$Drives;") ∈ pm_T := pm_t2 (List.mem_of_getElem? (i := 65) rfl) rfl
theorem w2_66 : (Cond.fieldLink "WriterPace$Oracle" (74 : Nat) "WriterPace$State" "drives" "LWriterPace$Drives;") ∈ pm_T := pm_t2 (List.mem_of_getElem? (i := 66) rfl) rfl
theorem w2_67 : (Cond.fieldLink "WriterPace" (145 : Nat) "WriterPace$State" "drives" "LWriterPace$Drives;") ∈ pm_T := pm_t2 (List.mem_of_getElem? (i := 67) rfl) rfl
theorem w2_68 : (Cond.fieldLink "WriterPace$State" (18 : Nat) "WriterPace$State" "dirty" "[I") ∈ pm_T := pm_t2 (List.mem_of_getElem? (i := 68) rfl) rfl
theorem w2_69 : (Cond.fieldLink "WriterPace$Clock" (123 : Nat) "WriterPace$State" "dirty" "[I") ∈ pm_T := pm_t2 (List.mem_of_getElem? (i := 69) rfl) rfl
theorem w2_70 : (Cond.fieldLink "WriterPace" (189 : Nat) "WriterPace$State" "dirty" "[I") ∈ pm_T := pm_t2 (List.mem_of_getElem? (i := 70) rfl) rfl
theorem w2_71 : (Cond.fieldLink "WriterPace$State" (22 : Nat) "WriterPace$State" "since" "[I") ∈ pm_T := pm_t2 (List.mem_of_getElem? (i := 71) rfl) rfl
theorem w2_72 : (Cond.fieldLink "WriterPace$Clock" (127 : Nat) "WriterPace$State" "since" "[I") ∈ pm_T := pm_t2 (List.mem_of_getElem? (i := 72) rfl) rfl
theorem w2_73 : (Cond.fieldLink "WriterPace$State" (25 : Nat) "WriterPace$State" "wanted" "[I") ∈ pm_T := pm_t2 (List.mem_of_getElem? (i := 73) rfl) rfl
theorem w2_74 : (Cond.fieldLink "WriterPace$Oracle" (31 : Nat) "WriterPace$State" "wanted" "[I") ∈ pm_T := pm_t2 (List.mem_of_getElem? (i := 74) rfl) rfl
theorem w2_75 : (Cond.fieldLink "WriterPace" (204 : Nat) "WriterPace$State" "wanted" "[I") ∈ pm_T := pm_t2 (List.mem_of_getElem? (i := 75) rfl) rfl
theorem w2_76 : (Cond.fieldLink "WriterPace$State" (28 : Nat) "WriterPace$State" "pauseLeft" "[I") ∈ pm_T := pm_t2 (List.mem_of_getElem? (i := 76) rfl) rfl
theorem w2_77 : (Cond.fieldLink "WriterPace" (207 : Nat) "WriterPace$State" "pauseLeft" "[I") ∈ pm_T := pm_t2 (List.mem_of_getElem? (i := 77) rfl) rfl
theorem w2_78 : (Cond.fieldLink "WriterPace$Clock" (146 : Nat) "WriterPace$State" "pauseLeft" "[I") ∈ pm_T := pm_t2 (List.mem_of_getElem? (i := 78) rfl) rfl
theorem w2_79 : (Cond.fieldLink "WriterPace$State" (31 : Nat) "WriterPace$State" "lastPause" "[I") ∈ pm_T := pm_t2 (List.mem_of_getElem? (i := 79) rfl) rfl
theorem w2_80 : (Cond.fieldLink "WriterPace" (210 : Nat) "WriterPace$State" "lastPause" "[I") ∈ pm_T := pm_t2 (List.mem_of_getElem? (i := 80) rfl) rfl
theorem w2_81 : (Cond.fieldLink "WriterPace$Clock" (174 : Nat) "WriterPace$State" "lastPause" "[I") ∈ pm_T := pm_t2 (List.mem_of_getElem? (i := 81) rfl) rfl
theorem w2_82 : (Cond.fieldLink "WriterPace$State" (34 : Nat) "WriterPace$State" "made" "[I") ∈ pm_T := pm_t2 (List.mem_of_getElem? (i := 82) rfl) rfl
theorem w2_83 : (Cond.fieldLink "WriterPace" (213 : Nat) "WriterPace$State" "made" "[I") ∈ pm_T := pm_t2 (List.mem_of_getElem? (i := 83) rfl) rfl
theorem w2_84 : (Cond.fieldLink "WriterPace$Clock" (167 : Nat) "WriterPace$State" "made" "[I") ∈ pm_T := pm_t2 (List.mem_of_getElem? (i := 84) rfl) rfl
theorem w2_85 : (Cond.fieldLink "WriterPace$State" (37 : Nat) "WriterPace$State" "heldTimes" "[I") ∈ pm_T := pm_t2 (List.mem_of_getElem? (i := 85) rfl) rfl
theorem w2_86 : (Cond.fieldLink "WriterPace" (216 : Nat) "WriterPace$State" "heldTimes" "[I") ∈ pm_T := pm_t2 (List.mem_of_getElem? (i := 86) rfl) rfl
theorem w2_87 : (Cond.fieldLink "WriterPace$Clock" (158 : Nat) "WriterPace$State" "heldTimes" "[I") ∈ pm_T := pm_t2 (List.mem_of_getElem? (i := 87) rfl) rfl
theorem w2_88 : (Cond.fieldLink "WriterPace$State" (40 : Nat) "WriterPace$State" "tick" "I") ∈ pm_T := pm_t2 (List.mem_of_getElem? (i := 88) rfl) rfl
theorem w2_89 : (Cond.fieldLink "WriterPace$Clock" (39 : Nat) "WriterPace$State" "tick" "I") ∈ pm_T := pm_t2 (List.mem_of_getElem? (i := 89) rfl) rfl
theorem w2_90 : (Cond.fieldLink "WriterPace$Oracle" (51 : Nat) "WriterPace$State" "tick" "I") ∈ pm_T := pm_t2 (List.mem_of_getElem? (i := 90) rfl) rfl
theorem w2_91 : (Cond.fieldLink "WriterPace" (271 : Nat) "WriterPace$State" "tick" "I") ∈ pm_T := pm_t2 (List.mem_of_getElem? (i := 91) rfl) rfl
theorem w2_92 : (Cond.fieldLink "WriterPace$State" (44 : Nat) "WriterPace$State" "all" "I") ∈ pm_T := pm_t2 (List.mem_of_getElem? (i := 92) rfl) rfl
theorem w2_93 : (Cond.fieldLink "WriterPace$Clock" (94 : Nat) "WriterPace$State" "all" "I") ∈ pm_T := pm_t2 (List.mem_of_getElem? (i := 93) rfl) rfl
theorem w2_94 : (Cond.fieldLink "WriterPace" (268 : Nat) "WriterPace$State" "all" "I") ∈ pm_T := pm_t2 (List.mem_of_getElem? (i := 94) rfl) rfl
theorem w2_95 : (Cond.fieldLink "WriterPace$State" (47 : Nat) "WriterPace$State" "limit" "I") ∈ pm_T := pm_t2 (List.mem_of_getElem? (i := 95) rfl) rfl
theorem w2_96 : (Cond.fieldLink "WriterPace$Clock" (152 : Nat) "WriterPace$State" "limit" "I") ∈ pm_T := pm_t2 (List.mem_of_getElem? (i := 96) rfl) rfl
theorem w2_97 : (Cond.fieldLink "WriterPace" (316 : Nat) "WriterPace$State" "limit" "I") ∈ pm_T := pm_t2 (List.mem_of_getElem? (i := 97) rfl) rfl
theorem w2_98 : (Cond.fieldLink "WriterPace$State" (50 : Nat) "WriterPace$State" "stalled" "I") ∈ pm_T := pm_t2 (List.mem_of_getElem? (i := 98) rfl) rfl
theorem w2_99 : (Cond.fieldLink "WriterPace$Clock" (66 : Nat) "WriterPace$State" "stalled" "I") ∈ pm_T := pm_t2 (List.mem_of_getElem? (i := 99) rfl) rfl
theorem w2_100 : (Cond.fieldLink "WriterPace" (375 : Nat) "WriterPace$State" "stalled" "I") ∈ pm_T := pm_t2 (List.mem_of_getElem? (i := 100) rfl) rfl
theorem w2_101 : (Cond.fieldLink "WriterPace$State" (53 : Nat) "WriterPace$State" "lawless" "I") ∈ pm_T := pm_t2 (List.mem_of_getElem? (i := 101) rfl) rfl
theorem w2_102 : (Cond.fieldLink "WriterPace$Oracle" (89 : Nat) "WriterPace$State" "lawless" "I") ∈ pm_T := pm_t2 (List.mem_of_getElem? (i := 102) rfl) rfl
theorem w2_103 : (Cond.fieldLink "WriterPace" (372 : Nat) "WriterPace$State" "lawless" "I") ∈ pm_T := pm_t2 (List.mem_of_getElem? (i := 103) rfl) rfl
theorem w2_104 : (Cond.fieldLink "WriterPace$State" (56 : Nat) "WriterPace$State" "quiet" "Z") ∈ pm_T := pm_t2 (List.mem_of_getElem? (i := 104) rfl) rfl
theorem w2_105 : (Cond.fieldLink "WriterPace$Clock" (27 : Nat) "WriterPace$State" "quiet" "Z") ∈ pm_T := pm_t2 (List.mem_of_getElem? (i := 105) rfl) rfl
theorem w2_106 : (Cond.fieldLink "WriterPace" (296 : Nat) "WriterPace$State" "quiet" "Z") ∈ pm_T := pm_t2 (List.mem_of_getElem? (i := 106) rfl) rfl
theorem w2_107 : (Cond.laysFinal "WriterPace$State" "WriterPace$State" "drives" "LWriterPace$Drives;") ∈ pm_T := pm_t2 (List.mem_of_getElem? (i := 107) rfl) rfl
theorem w2_109 : (Cond.laysFinal "WriterPace$State" "WriterPace$State" "dirty" "[I") ∈ pm_T := pm_t2 (List.mem_of_getElem? (i := 109) rfl) rfl
theorem w2_111 : (Cond.laysFinal "WriterPace$State" "WriterPace$State" "since" "[I") ∈ pm_T := pm_t2 (List.mem_of_getElem? (i := 111) rfl) rfl
theorem w2_113 : (Cond.laysFinal "WriterPace$State" "WriterPace$State" "wanted" "[I") ∈ pm_T := pm_t2 (List.mem_of_getElem? (i := 113) rfl) rfl
theorem w2_115 : (Cond.laysFinal "WriterPace$State" "WriterPace$State" "pauseLeft" "[I") ∈ pm_T := pm_t2 (List.mem_of_getElem? (i := 115) rfl) rfl
theorem w2_117 : (Cond.laysFinal "WriterPace$State" "WriterPace$State" "lastPause" "[I") ∈ pm_T := pm_t2 (List.mem_of_getElem? (i := 117) rfl) rfl
theorem w2_119 : (Cond.laysFinal "WriterPace$State" "WriterPace$State" "made" "[I") ∈ pm_T := pm_t2 (List.mem_of_getElem? (i := 119) rfl) rfl
theorem w2_121 : (Cond.laysFinal "WriterPace$State" "WriterPace$State" "heldTimes" "[I") ∈ pm_T := pm_t2 (List.mem_of_getElem? (i := 121) rfl) rfl
theorem w2_123 : (Cond.lays "WriterPace$State" "WriterPace$State" "tick" "I") ∈ pm_T := pm_t2 (List.mem_of_getElem? (i := 123) rfl) rfl
theorem w2_125 : (Cond.lays "WriterPace$State" "WriterPace$State" "all" "I") ∈ pm_T := pm_t2 (List.mem_of_getElem? (i := 125) rfl) rfl
theorem w2_127 : (Cond.lays "WriterPace$State" "WriterPace$State" "limit" "I") ∈ pm_T := pm_t2 (List.mem_of_getElem? (i := 127) rfl) rfl
theorem w2_129 : (Cond.lays "WriterPace$State" "WriterPace$State" "stalled" "I") ∈ pm_T := pm_t2 (List.mem_of_getElem? (i := 129) rfl) rfl
theorem w2_131 : (Cond.lays "WriterPace$State" "WriterPace$State" "lawless" "I") ∈ pm_T := pm_t2 (List.mem_of_getElem? (i := 131) rfl) rfl
theorem w2_133 : (Cond.lays "WriterPace$State" "WriterPace$State" "quiet" "Z") ∈ pm_T := pm_t2 (List.mem_of_getElem? (i := 133) rfl) rfl
theorem w2_137 : (Cond.classLink "WriterPace" (68 : Nat) "WriterPace$Tray") ∈ pm_T := pm_t2 (List.mem_of_getElem? (i := 137) rfl) rfl
theorem w2_140 : (Cond.instantiable "WriterPace$Tray" (4 : Nat)) ∈ pm_T := pm_t2 (List.mem_of_getElem? (i := 140) rfl) rfl
theorem w2_142 : (Cond.instanceMethod yX7_init) ∈ pm_T := pm_t2 (List.mem_of_getElem? (i := 142) rfl) rfl
theorem w2_143 : (Cond.code yX7_init prog_9_method_1_code (1 : Nat) (Option.none : Option Jvm.ClassFile.FieldType)) ∈ pm_T := pm_t2 (List.mem_of_getElem? (i := 143) rfl) rfl
theorem w2_144 : (Cond.methodLink "WriterPace$Tray" (3 : Nat) objectInit) ∈ pm_T := pm_t2 (List.mem_of_getElem? (i := 144) rfl) rfl
theorem w2_145 : (Cond.fieldLink "WriterPace$Tray" (9 : Nat) "WriterPace$Tray" "values" "[J") ∈ pm_T := pm_t2 (List.mem_of_getElem? (i := 145) rfl) rfl
theorem w2_146 : (Cond.fieldLink "WriterPace" (354 : Nat) "WriterPace$Tray" "values" "[J") ∈ pm_T := pm_t2 (List.mem_of_getElem? (i := 146) rfl) rfl
theorem w2_147 : (Cond.fieldLink "WriterPace$Tray" (15 : Nat) "WriterPace$Tray" "missing" "Z") ∈ pm_T := pm_t2 (List.mem_of_getElem? (i := 147) rfl) rfl
theorem w2_148 : (Cond.fieldLink "WriterPace" (257 : Nat) "WriterPace$Tray" "missing" "Z") ∈ pm_T := pm_t2 (List.mem_of_getElem? (i := 148) rfl) rfl
theorem w2_149 : (Cond.fieldLink "WriterPace$Tray" (19 : Nat) "WriterPace$Tray" "sort" "I") ∈ pm_T := pm_t2 (List.mem_of_getElem? (i := 149) rfl) rfl
theorem w2_150 : (Cond.fieldLink "WriterPace$Tray" (23 : Nat) "WriterPace$Tray" "size" "I") ∈ pm_T := pm_t2 (List.mem_of_getElem? (i := 150) rfl) rfl
theorem w2_151 : (Cond.fieldLink "WriterPace" (265 : Nat) "WriterPace$Tray" "size" "I") ∈ pm_T := pm_t2 (List.mem_of_getElem? (i := 151) rfl) rfl
theorem w2_152 : (Cond.laysFinal "WriterPace$Tray" "WriterPace$Tray" "values" "[J") ∈ pm_T := pm_t2 (List.mem_of_getElem? (i := 152) rfl) rfl
theorem w2_154 : (Cond.lays "WriterPace$Tray" "WriterPace$Tray" "missing" "Z") ∈ pm_T := pm_t2 (List.mem_of_getElem? (i := 154) rfl) rfl
theorem w2_156 : (Cond.lays "WriterPace$Tray" "WriterPace$Tray" "sort" "I") ∈ pm_T := pm_t2 (List.mem_of_getElem? (i := 156) rfl) rfl
theorem w2_158 : (Cond.lays "WriterPace$Tray" "WriterPace$Tray" "size" "I") ∈ pm_T := pm_t2 (List.mem_of_getElem? (i := 158) rfl) rfl
theorem w2_161 : (Cond.arrayClass Jvm.ClassFile.FieldType.boolean) ∈ pm_T := pm_t2 (List.mem_of_getElem? (i := 161) rfl) rfl
theorem w2_162 : (Cond.arrayClass Jvm.ClassFile.FieldType.long) ∈ pm_T := pm_t2 (List.mem_of_getElem? (i := 162) rfl) rfl
theorem w2_163 : (Cond.methodLink "WriterPace" (89 : Nat) yX6_begin) ∈ pm_T := pm_t2 (List.mem_of_getElem? (i := 163) rfl) rfl
theorem w2_164 : (Cond.instanceMethod yX6_begin) ∈ pm_T := pm_t2 (List.mem_of_getElem? (i := 164) rfl) rfl
theorem w2_165 : (Cond.selects "WriterPace$State" yX6_begin yX6_begin) ∈ pm_T := pm_t2 (List.mem_of_getElem? (i := 165) rfl) rfl
theorem w2_166 : (Cond.code yX6_begin prog_8_method_2_code (2 : Nat) (Option.none : Option Jvm.ClassFile.FieldType)) ∈ pm_T := pm_t2 (List.mem_of_getElem? (i := 166) rfl) rfl
theorem w2_167 : (Cond.methodLink "WriterPace$State" (60 : Nat) yX1_begin) ∈ pm_T := pm_t2 (List.mem_of_getElem? (i := 167) rfl) rfl
theorem w2_168 : (Cond.instanceMethod yX1_begin) ∈ pm_T := pm_t2 (List.mem_of_getElem? (i := 168) rfl) rfl
theorem w2_169 : (Cond.selects "WriterPace$Drives" yX1_begin yX1_begin) ∈ pm_T := pm_t2 (List.mem_of_getElem? (i := 169) rfl) rfl
theorem w2_170 : (Cond.code yX1_begin prog_3_method_2_code (3 : Nat) (Option.none : Option Jvm.ClassFile.FieldType)) ∈ pm_T := pm_t2 (List.mem_of_getElem? (i := 170) rfl) rfl
theorem w2_171 : (Cond.methodLink "WriterPace$Drives" (40 : Nat) yJ7_fill_53178) ∈ pm_T := pm_t2 (List.mem_of_getElem? (i := 171) rfl) rfl
theorem w2_172 : (Cond.methodLink "WriterPace$State" (64 : Nat) yJ7_fill_53178) ∈ pm_T := pm_t2 (List.mem_of_getElem? (i := 172) rfl) rfl
theorem w2_173 : (Cond.methodLink "WriterPace$State" (73 : Nat) arraycopyName) ∈ pm_T := pm_t2 (List.mem_of_getElem? (i := 173) rfl) rfl
theorem w2_174 : (Cond.static arraycopyName) ∈ pm_T := pm_t2 (List.mem_of_getElem? (i := 174) rfl) rfl
theorem w2_175 : (Cond.native arraycopyName) ∈ pm_T := pm_t2 (List.mem_of_getElem? (i := 175) rfl) rfl
theorem w2_176 : (Cond.fieldLink "WriterPace" (9 : Nat) "WriterPace" "tape" "[B") ∈ pm_T := pm_t2 (List.mem_of_getElem? (i := 176) rfl) rfl
theorem w2_177 : (Cond.fieldLink "WriterPace" (13 : Nat) "WriterPace" "taped" "I") ∈ pm_T := pm_t2 (List.mem_of_getElem? (i := 177) rfl) rfl
theorem w2_178 : (Cond.fieldLink "WriterPace" (20 : Nat) "WriterPace" "spare" "LWriterPace$Host;") ∈ pm_T := pm_t2 (List.mem_of_getElem? (i := 178) rfl) rfl
theorem w2_179 : (Cond.fieldLink "WriterPace" (29 : Nat) "WriterPace" "reader" "LWriterPace$Reader;") ∈ pm_T := pm_t2 (List.mem_of_getElem? (i := 179) rfl) rfl
theorem w2_180 : (Cond.fieldLink "WriterPace" (33 : Nat) "WriterPace" "told" "LWriterPace$Host;") ∈ pm_T := pm_t2 (List.mem_of_getElem? (i := 180) rfl) rfl
theorem w2_181 : (Cond.fieldLink "WriterPace" (41 : Nat) "WriterPace" "clock" "LWriterPace$Clock;") ∈ pm_T := pm_t2 (List.mem_of_getElem? (i := 181) rfl) rfl
theorem w2_182 : (Cond.fieldLink "WriterPace" (48 : Nat) "WriterPace" "now" "LWriterPace$State;") ∈ pm_T := pm_t2 (List.mem_of_getElem? (i := 182) rfl) rfl
theorem w2_183 : (Cond.fieldLink "WriterPace" (52 : Nat) "WriterPace" "going" "LWriterPace$State;") ∈ pm_T := pm_t2 (List.mem_of_getElem? (i := 183) rfl) rfl
theorem w2_184 : (Cond.fieldLink "WriterPace" (55 : Nat) "WriterPace" "before" "LWriterPace$State;") ∈ pm_T := pm_t2 (List.mem_of_getElem? (i := 184) rfl) rfl
theorem w2_185 : (Cond.fieldLink "WriterPace" (58 : Nat) "WriterPace" "past" "[LWriterPace$State;") ∈ pm_T := pm_t2 (List.mem_of_getElem? (i := 185) rfl) rfl
theorem w2_186 : (Cond.fieldLink "WriterPace" (62 : Nat) "WriterPace" "pastFirst" "I") ∈ pm_T := pm_t2 (List.mem_of_getElem? (i := 186) rfl) rfl
theorem w2_187 : (Cond.fieldLink "WriterPace" (65 : Nat) "WriterPace" "pastSize" "I") ∈ pm_T := pm_t2 (List.mem_of_getElem? (i := 187) rfl) rfl
theorem w2_188 : (Cond.fieldLink "WriterPace" (70 : Nat) "WriterPace" "trays" "[LWriterPace$Tray;") ∈ pm_T := pm_t2 (List.mem_of_getElem? (i := 188) rfl) rfl
theorem w2_189 : (Cond.fieldLink "WriterPace" (74 : Nat) "WriterPace" "imageHosts" "[LWriterPace$Host;") ∈ pm_T := pm_t2 (List.mem_of_getElem? (i := 189) rfl) rfl
theorem w2_190 : (Cond.fieldLink "WriterPace" (78 : Nat) "WriterPace" "imageStates" "[LWriterPace$State;") ∈ pm_T := pm_t2 (List.mem_of_getElem? (i := 190) rfl) rfl
theorem w2_191 : (Cond.fieldLink "WriterPace" (81 : Nat) "WriterPace" "imageMade" "[Z") ∈ pm_T := pm_t2 (List.mem_of_getElem? (i := 191) rfl) rfl
theorem w2_192 : (Cond.fieldLink "WriterPace" (85 : Nat) "WriterPace" "drawn" "I") ∈ pm_T := pm_t2 (List.mem_of_getElem? (i := 192) rfl) rfl
theorem w2_193 : (Cond.laysFinal "WriterPace" "WriterPace" "tape" "[B") ∈ pm_T := pm_t2 (List.mem_of_getElem? (i := 193) rfl) rfl
theorem w2_195 : (Cond.lays "WriterPace" "WriterPace" "taped" "I") ∈ pm_T := pm_t2 (List.mem_of_getElem? (i := 195) rfl) rfl
theorem w2_197 : (Cond.laysFinal "WriterPace" "WriterPace" "spare" "LWriterPace$Host;") ∈ pm_T := pm_t2 (List.mem_of_getElem? (i := 197) rfl) rfl
theorem w2_199 : (Cond.laysFinal "WriterPace" "WriterPace" "reader" "LWriterPace$Reader;") ∈ pm_T := pm_t2 (List.mem_of_getElem? (i := 199) rfl) rfl
theorem w2_201 : (Cond.laysFinal "WriterPace" "WriterPace" "told" "LWriterPace$Host;") ∈ pm_T := pm_t2 (List.mem_of_getElem? (i := 201) rfl) rfl
theorem w2_203 : (Cond.laysFinal "WriterPace" "WriterPace" "clock" "LWriterPace$Clock;") ∈ pm_T := pm_t2 (List.mem_of_getElem? (i := 203) rfl) rfl
theorem w2_205 : (Cond.laysFinal "WriterPace" "WriterPace" "now" "LWriterPace$State;") ∈ pm_T := pm_t2 (List.mem_of_getElem? (i := 205) rfl) rfl
theorem w2_207 : (Cond.laysFinal "WriterPace" "WriterPace" "going" "LWriterPace$State;") ∈ pm_T := pm_t2 (List.mem_of_getElem? (i := 207) rfl) rfl
theorem w2_209 : (Cond.laysFinal "WriterPace" "WriterPace" "before" "LWriterPace$State;") ∈ pm_T := pm_t2 (List.mem_of_getElem? (i := 209) rfl) rfl
theorem w2_211 : (Cond.laysFinal "WriterPace" "WriterPace" "past" "[LWriterPace$State;") ∈ pm_T := pm_t2 (List.mem_of_getElem? (i := 211) rfl) rfl
theorem w2_213 : (Cond.lays "WriterPace" "WriterPace" "pastFirst" "I") ∈ pm_T := pm_t2 (List.mem_of_getElem? (i := 213) rfl) rfl
theorem w2_215 : (Cond.lays "WriterPace" "WriterPace" "pastSize" "I") ∈ pm_T := pm_t2 (List.mem_of_getElem? (i := 215) rfl) rfl
theorem w2_217 : (Cond.laysFinal "WriterPace" "WriterPace" "trays" "[LWriterPace$Tray;") ∈ pm_T := pm_t2 (List.mem_of_getElem? (i := 217) rfl) rfl
theorem w2_219 : (Cond.laysFinal "WriterPace" "WriterPace" "imageHosts" "[LWriterPace$Host;") ∈ pm_T := pm_t2 (List.mem_of_getElem? (i := 219) rfl) rfl
theorem w2_221 : (Cond.laysFinal "WriterPace" "WriterPace" "imageStates" "[LWriterPace$State;") ∈ pm_T := pm_t2 (List.mem_of_getElem? (i := 221) rfl) rfl
theorem w2_223 : (Cond.laysFinal "WriterPace" "WriterPace" "imageMade" "[Z") ∈ pm_T := pm_t2 (List.mem_of_getElem? (i := 223) rfl) rfl
theorem w2_225 : (Cond.lays "WriterPace" "WriterPace" "drawn" "I") ∈ pm_T := pm_t2 (List.mem_of_getElem? (i := 225) rfl) rfl
theorem w2_228 : (Cond.methodLink "WriterPaceLaw" (13 : Nat) yX8_feed) ∈ pm_T := pm_t2 (List.mem_of_getElem? (i := 228) rfl) rfl
theorem w2_229 : (Cond.instanceMethod yX8_feed) ∈ pm_T := pm_t2 (List.mem_of_getElem? (i := 229) rfl) rfl
theorem w2_230 : (Cond.selects "WriterPace" yX8_feed yX8_feed) ∈ pm_T := pm_t2 (List.mem_of_getElem? (i := 230) rfl) rfl
theorem w2_231 : (Cond.code yX8_feed prog_1_method_2_code (6 : Nat) (Option.some Jvm.ClassFile.FieldType.int)) ∈ pm_T := pm_t2 (List.mem_of_getElem? (i := 231) rfl) rfl
theorem w2_232 : (Cond.methodLink "WriterPace" (92 : Nat) yX8_layOnTape) ∈ pm_T := pm_t2 (List.mem_of_getElem? (i := 232) rfl) rfl
theorem w2_234 : (Cond.instanceMethod yX8_layOnTape) ∈ pm_T := pm_t2 (List.mem_of_getElem? (i := 234) rfl) rfl
theorem w2_235 : (Cond.code yX8_layOnTape prog_1_method_45_code (3 : Nat) (Option.none : Option Jvm.ClassFile.FieldType)) ∈ pm_T := pm_t2 (List.mem_of_getElem? (i := 235) rfl) rfl
theorem w2_236 : (Cond.methodLink "WriterPaceLaw" (18 : Nat) yX8_host) ∈ pm_T := pm_t2 (List.mem_of_getElem? (i := 236) rfl) rfl
theorem w2_237 : (Cond.instanceMethod yX8_host) ∈ pm_T := pm_t2 (List.mem_of_getElem? (i := 237) rfl) rfl
theorem w2_238 : (Cond.selects "WriterPace" yX8_host yX8_host) ∈ pm_T := pm_t2 (List.mem_of_getElem? (i := 238) rfl) rfl
theorem w2_239 : (Cond.code yX8_host prog_1_method_3_code (2 : Nat) (Option.some Jvm.ClassFile.FieldType.int)) ∈ pm_T := pm_t2 (List.mem_of_getElem? (i := 239) rfl) rfl
theorem w3_0 : (Cond.methodLink "WriterPace" (96 : Nat) yX5_readText) ∈ pm_T := pm_t3 (List.mem_of_getElem? (i := 0) rfl) rfl
theorem w3_1 : (Cond.instanceMethod yX5_readText) ∈ pm_T := pm_t3 (List.mem_of_getElem? (i := 1) rfl) rfl
theorem w3_2 : (Cond.selects "WriterPace$Reader" yX5_readText yX5_readText) ∈ pm_T := pm_t3 (List.mem_of_getElem? (i := 2) rfl) rfl
theorem w3_3 : (Cond.code yX5_readText prog_7_method_2_code (4 : Nat) (Option.some Jvm.ClassFile.FieldType.boolean)) ∈ pm_T := pm_t3 (List.mem_of_getElem? (i := 3) rfl) rfl
theorem w3_4 : (Cond.methodLink "WriterPace$Reader" (51 : Nat) yJ9_min_7cf53) ∈ pm_T := pm_t3 (List.mem_of_getElem? (i := 4) rfl) rfl
theorem w3_5 : (Cond.static yJ9_min_7cf53) ∈ pm_T := pm_t3 (List.mem_of_getElem? (i := 5) rfl) rfl
theorem w3_6 : (Cond.code yJ9_min_7cf53 prog_13_method_69_code (2 : Nat) (Option.some Jvm.ClassFile.FieldType.int)) ∈ pm_T := pm_t3 (List.mem_of_getElem? (i := 6) rfl) rfl
theorem w3_7 : (Cond.methodLink "WriterPace$Reader" (57 : Nat) yX2_clear) ∈ pm_T := pm_t3 (List.mem_of_getElem? (i := 7) rfl) rfl
theorem w3_8 : (Cond.instanceMethod yX2_clear) ∈ pm_T := pm_t3 (List.mem_of_getElem? (i := 8) rfl) rfl
theorem w3_9 : (Cond.selects "WriterPace$Host" yX2_clear yX2_clear) ∈ pm_T := pm_t3 (List.mem_of_getElem? (i := 9) rfl) rfl
theorem w3_10 : (Cond.code yX2_clear prog_4_method_2_code (1 : Nat) (Option.none : Option Jvm.ClassFile.FieldType)) ∈ pm_T := pm_t3 (List.mem_of_getElem? (i := 10) rfl) rfl
theorem w3_11 : (Cond.methodLink "WriterPace$Host" (71 : Nat) yJ7_fill_53178) ∈ pm_T := pm_t3 (List.mem_of_getElem? (i := 11) rfl) rfl
theorem w3_12 : (Cond.methodLink "WriterPace$Host" (77 : Nat) yX3_clear) ∈ pm_T := pm_t3 (List.mem_of_getElem? (i := 12) rfl) rfl
theorem w3_13 : (Cond.instanceMethod yX3_clear) ∈ pm_T := pm_t3 (List.mem_of_getElem? (i := 13) rfl) rfl
theorem w3_14 : (Cond.selects "WriterPace$Laws" yX3_clear yX3_clear) ∈ pm_T := pm_t3 (List.mem_of_getElem? (i := 14) rfl) rfl
theorem w3_15 : (Cond.code yX3_clear prog_5_method_2_code (1 : Nat) (Option.none : Option Jvm.ClassFile.FieldType)) ∈ pm_T := pm_t3 (List.mem_of_getElem? (i := 15) rfl) rfl
theorem w3_16 : (Cond.methodLink "WriterPace$Reader" (62 : Nat) yX5_advance) ∈ pm_T := pm_t3 (List.mem_of_getElem? (i := 16) rfl) rfl
theorem w3_18 : (Cond.instanceMethod yX5_advance) ∈ pm_T := pm_t3 (List.mem_of_getElem? (i := 18) rfl) rfl
theorem w3_19 : (Cond.code yX5_advance prog_7_method_25_code (2 : Nat) (Option.none : Option Jvm.ClassFile.FieldType)) ∈ pm_T := pm_t3 (List.mem_of_getElem? (i := 19) rfl) rfl
theorem w3_20 : (Cond.methodLink "WriterPace$Reader" (246 : Nat) yX5_isBlank) ∈ pm_T := pm_t3 (List.mem_of_getElem? (i := 20) rfl) rfl
theorem w3_21 : (Cond.static yX5_isBlank) ∈ pm_T := pm_t3 (List.mem_of_getElem? (i := 21) rfl) rfl
theorem w3_22 : (Cond.code yX5_isBlank prog_7_method_26_code (1 : Nat) (Option.some Jvm.ClassFile.FieldType.boolean)) ∈ pm_T := pm_t3 (List.mem_of_getElem? (i := 22) rfl) rfl
theorem w3_23 : (Cond.methodLink "WriterPace$Reader" (250 : Nat) yX5_isLetter) ∈ pm_T := pm_t3 (List.mem_of_getElem? (i := 23) rfl) rfl
theorem w3_24 : (Cond.static yX5_isLetter) ∈ pm_T := pm_t3 (List.mem_of_getElem? (i := 24) rfl) rfl
theorem w3_25 : (Cond.code yX5_isLetter prog_7_method_27_code (1 : Nat) (Option.some Jvm.ClassFile.FieldType.boolean)) ∈ pm_T := pm_t3 (List.mem_of_getElem? (i := 25) rfl) rfl
theorem w3_26 : (Cond.methodLink "WriterPace$Reader" (253 : Nat) yX5_isDigit) ∈ pm_T := pm_t3 (List.mem_of_getElem? (i := 26) rfl) rfl
theorem w3_27 : (Cond.static yX5_isDigit) ∈ pm_T := pm_t3 (List.mem_of_getElem? (i := 27) rfl) rfl
theorem w3_28 : (Cond.code yX5_isDigit prog_7_method_28_code (1 : Nat) (Option.some Jvm.ClassFile.FieldType.boolean)) ∈ pm_T := pm_t3 (List.mem_of_getElem? (i := 28) rfl) rfl
theorem w3_30 : (Cond.methodLink "WriterPace$Reader" (258 : Nat) yJ0_indexOf_0f7a4) ∈ pm_T := pm_t3 (List.mem_of_getElem? (i := 30) rfl) rfl
theorem w3_31 : (Cond.instanceMethod yJ0_indexOf_0f7a4) ∈ pm_T := pm_t3 (List.mem_of_getElem? (i := 31) rfl) rfl
theorem w3_32 : (Cond.selects "java/lang/String" yJ0_indexOf_0f7a4 yJ0_indexOf_0f7a4) ∈ pm_T := pm_t3 (List.mem_of_getElem? (i := 32) rfl) rfl
theorem w3_33 : (Cond.code yJ0_indexOf_0f7a4 prog_14_method_79_code (2 : Nat) (Option.some Jvm.ClassFile.FieldType.int)) ∈ pm_T := pm_t3 (List.mem_of_getElem? (i := 33) rfl) rfl
theorem w3_34 : (Cond.methodLink "java/lang/String" (633 : Nat) yJ0_indexOf_7cf53) ∈ pm_T := pm_t3 (List.mem_of_getElem? (i := 34) rfl) rfl
theorem w3_35 : (Cond.instanceMethod yJ0_indexOf_7cf53) ∈ pm_T := pm_t3 (List.mem_of_getElem? (i := 35) rfl) rfl
theorem w3_36 : (Cond.selects "java/lang/String" yJ0_indexOf_7cf53 yJ0_indexOf_7cf53) ∈ pm_T := pm_t3 (List.mem_of_getElem? (i := 36) rfl) rfl
theorem w3_37 : (Cond.code yJ0_indexOf_7cf53 prog_14_method_80_code (3 : Nat) (Option.some Jvm.ClassFile.FieldType.int)) ∈ pm_T := pm_t3 (List.mem_of_getElem? (i := 37) rfl) rfl
theorem w3_38 : (Cond.methodLink "java/lang/String" (492 : Nat) yJ0_isLatin1_aae02) ∈ pm_T := pm_t3 (List.mem_of_getElem? (i := 38) rfl) rfl
theorem w3_39 : (Cond.instanceMethod yJ0_isLatin1_aae02) ∈ pm_T := pm_t3 (List.mem_of_getElem? (i := 39) rfl) rfl
theorem w3_40 : (Cond.selects "java/lang/String" yJ0_isLatin1_aae02 yJ0_isLatin1_aae02) ∈ pm_T := pm_t3 (List.mem_of_getElem? (i := 40) rfl) rfl
theorem w3_41 : (Cond.code yJ0_isLatin1_aae02 prog_14_method_154_code (1 : Nat) (Option.some Jvm.ClassFile.FieldType.boolean)) ∈ pm_T := pm_t3 (List.mem_of_getElem? (i := 41) rfl) rfl
theorem w3_42 : (Cond.fieldLink "java/lang/String" (38 : Nat) "java/lang/String" "COMPACT_STRINGS" "Z") ∈ pm_T := pm_t3 (List.mem_of_getElem? (i := 42) rfl) rfl
theorem w3_44 : (Cond.methodLink "java/lang/String" (505 : Nat) yJ0_length_8abf5) ∈ pm_T := pm_t3 (List.mem_of_getElem? (i := 44) rfl) rfl
theorem w3_45 : (Cond.instanceMethod yJ0_length_8abf5) ∈ pm_T := pm_t3 (List.mem_of_getElem? (i := 45) rfl) rfl
theorem w3_46 : (Cond.selects "java/lang/String" yJ0_length_8abf5 yJ0_length_8abf5) ∈ pm_T := pm_t3 (List.mem_of_getElem? (i := 46) rfl) rfl
theorem w3_47 : (Cond.code yJ0_length_8abf5 prog_14_method_54_code (1 : Nat) (Option.some Jvm.ClassFile.FieldType.int)) ∈ pm_T := pm_t3 (List.mem_of_getElem? (i := 47) rfl) rfl
theorem w3_48 : (Cond.methodLink "java/lang/String" (335 : Nat) yJ0_coder_7d493) ∈ pm_T := pm_t3 (List.mem_of_getElem? (i := 48) rfl) rfl
theorem w3_49 : (Cond.instanceMethod yJ0_coder_7d493) ∈ pm_T := pm_t3 (List.mem_of_getElem? (i := 49) rfl) rfl
theorem w3_50 : (Cond.selects "java/lang/String" yJ0_coder_7d493 yJ0_coder_7d493) ∈ pm_T := pm_t3 (List.mem_of_getElem? (i := 50) rfl) rfl
theorem w3_51 : (Cond.code yJ0_coder_7d493 prog_14_method_152_code (1 : Nat) (Option.some Jvm.ClassFile.FieldType.byte)) ∈ pm_T := pm_t3 (List.mem_of_getElem? (i := 51) rfl) rfl
theorem w3_52 : (Cond.methodLink "java/lang/String" (637 : Nat) yJ1_indexOf_4cfef) ∈ pm_T := pm_t3 (List.mem_of_getElem? (i := 52) rfl) rfl
theorem w3_53 : (Cond.static yJ1_indexOf_4cfef) ∈ pm_T := pm_t3 (List.mem_of_getElem? (i := 53) rfl) rfl
theorem w3_54 : (Cond.code yJ1_indexOf_4cfef prog_15_method_22_code (4 : Nat) (Option.some Jvm.ClassFile.FieldType.int)) ∈ pm_T := pm_t3 (List.mem_of_getElem? (i := 54) rfl) rfl
theorem w3_55 : (Cond.methodLink "java/lang/StringLatin1" (88 : Nat) yJ1_canEncode_9a6ad) ∈ pm_T := pm_t3 (List.mem_of_getElem? (i := 55) rfl) rfl
theorem w3_56 : (Cond.static yJ1_canEncode_9a6ad) ∈ pm_T := pm_t3 (List.mem_of_getElem? (i := 56) rfl) rfl
theorem w3_57 : (Cond.code yJ1_canEncode_9a6ad prog_15_method_4_code (1 : Nat) (Option.some Jvm.ClassFile.FieldType.boolean)) ∈ pm_T := pm_t3 (List.mem_of_getElem? (i := 57) rfl) rfl
theorem w3_58 : (Cond.methodLink "java/lang/StringLatin1" (92 : Nat) yJ9_max_7cf53) ∈ pm_T := pm_t3 (List.mem_of_getElem? (i := 58) rfl) rfl
theorem w3_59 : (Cond.static yJ9_max_7cf53) ∈ pm_T := pm_t3 (List.mem_of_getElem? (i := 59) rfl) rfl
theorem w3_60 : (Cond.code yJ9_max_7cf53 prog_13_method_65_code (2 : Nat) (Option.some Jvm.ClassFile.FieldType.int)) ∈ pm_T := pm_t3 (List.mem_of_getElem? (i := 60) rfl) rfl
theorem w3_61 : (Cond.methodLink "java/lang/StringLatin1" (38 : Nat) yJ9_min_7cf53) ∈ pm_T := pm_t3 (List.mem_of_getElem? (i := 61) rfl) rfl
theorem w3_62 : (Cond.methodLink "java/lang/StringLatin1" (95 : Nat) yJ1_indexOfChar_4cfef) ∈ pm_T := pm_t3 (List.mem_of_getElem? (i := 62) rfl) rfl
theorem w3_63 : (Cond.static yJ1_indexOfChar_4cfef) ∈ pm_T := pm_t3 (List.mem_of_getElem? (i := 63) rfl) rfl
theorem w3_64 : (Cond.code yJ1_indexOfChar_4cfef prog_15_method_23_code (6 : Nat) (Option.some Jvm.ClassFile.FieldType.int)) ∈ pm_T := pm_t3 (List.mem_of_getElem? (i := 64) rfl) rfl
theorem w3_65 : (Cond.methodLink "java/lang/String" (640 : Nat) yJ2_indexOf_4cfef) ∈ pm_T := pm_t3 (List.mem_of_getElem? (i := 65) rfl) rfl
theorem w3_66 : (Cond.static yJ2_indexOf_4cfef) ∈ pm_T := pm_t3 (List.mem_of_getElem? (i := 66) rfl) rfl
theorem w3_67 : (Cond.code yJ2_indexOf_4cfef prog_16_method_40_code (4 : Nat) (Option.some Jvm.ClassFile.FieldType.int)) ∈ pm_T := pm_t3 (List.mem_of_getElem? (i := 67) rfl) rfl
theorem w3_68 : (Cond.methodLink "java/lang/StringUTF16" (224 : Nat) yJ9_max_7cf53) ∈ pm_T := pm_t3 (List.mem_of_getElem? (i := 68) rfl) rfl
theorem w3_69 : (Cond.methodLink "java/lang/StringUTF16" (183 : Nat) yJ9_min_7cf53) ∈ pm_T := pm_t3 (List.mem_of_getElem? (i := 69) rfl) rfl
theorem w3_70 : (Cond.constant "java/lang/StringUTF16" (227 : Nat) (65536 : Int32)) ∈ pm_T := pm_t3 (List.mem_of_getElem? (i := 70) rfl) rfl
theorem w3_71 : (Cond.methodLink "java/lang/StringUTF16" (228 : Nat) yJ2_indexOfChar_4cfef) ∈ pm_T := pm_t3 (List.mem_of_getElem? (i := 71) rfl) rfl
theorem w3_72 : (Cond.static yJ2_indexOfChar_4cfef) ∈ pm_T := pm_t3 (List.mem_of_getElem? (i := 72) rfl) rfl
theorem w3_73 : (Cond.code yJ2_indexOfChar_4cfef prog_16_method_47_code (4 : Nat) (Option.some Jvm.ClassFile.FieldType.int)) ∈ pm_T := pm_t3 (List.mem_of_getElem? (i := 73) rfl) rfl
theorem w3_74 : (Cond.methodLink "java/lang/StringUTF16" (96 : Nat) yJ2_checkBoundsBeginEnd_d044e) ∈ pm_T := pm_t3 (List.mem_of_getElem? (i := 74) rfl) rfl
theorem w3_75 : (Cond.static yJ2_checkBoundsBeginEnd_d044e) ∈ pm_T := pm_t3 (List.mem_of_getElem? (i := 75) rfl) rfl
theorem w3_76 : (Cond.code yJ2_checkBoundsBeginEnd_d044e prog_16_method_93_code (3 : Nat) (Option.none : Option Jvm.ClassFile.FieldType)) ∈ pm_T := pm_t3 (List.mem_of_getElem? (i := 76) rfl) rfl
theorem w3_77 : (Cond.methodLink "java/lang/StringUTF16" (48 : Nat) yJ2_length_9d52b) ∈ pm_T := pm_t3 (List.mem_of_getElem? (i := 77) rfl) rfl
theorem w3_78 : (Cond.static yJ2_length_9d52b) ∈ pm_T := pm_t3 (List.mem_of_getElem? (i := 78) rfl) rfl
theorem w3_79 : (Cond.code yJ2_length_9d52b prog_16_method_6_code (1 : Nat) (Option.some Jvm.ClassFile.FieldType.int)) ∈ pm_T := pm_t3 (List.mem_of_getElem? (i := 79) rfl) rfl
theorem w3_80 : (Cond.methodLink "java/lang/StringUTF16" (241 : Nat) yJ0_checkBoundsBeginEnd_23922) ∈ pm_T := pm_t3 (List.mem_of_getElem? (i := 80) rfl) rfl
theorem w3_81 : (Cond.static yJ0_checkBoundsBeginEnd_23922) ∈ pm_T := pm_t3 (List.mem_of_getElem? (i := 81) rfl) rfl
theorem w3_82 : (Cond.code yJ0_checkBoundsBeginEnd_23922 prog_14_method_158_code (3 : Nat) (Option.none : Option Jvm.ClassFile.FieldType)) ∈ pm_T := pm_t3 (List.mem_of_getElem? (i := 82) rfl) rfl
theorem w3_83 : (Cond.fieldLink "java/lang/String" (1053 : Nat) "jdk/internal/util/Preconditions" "SIOOBE_FORMATTER" "Ljava/util/function/BiFunction;") ∈ pm_T := pm_t3 (List.mem_of_getElem? (i := 83) rfl) rfl
theorem w3_85 : (Cond.methodLink "java/lang/String" (1062 : Nat) yJ3_checkFromToIndex_8c36e) ∈ pm_T := pm_t3 (List.mem_of_getElem? (i := 85) rfl) rfl
theorem w3_86 : (Cond.static yJ3_checkFromToIndex_8c36e) ∈ pm_T := pm_t3 (List.mem_of_getElem? (i := 86) rfl) rfl
theorem w3_87 : (Cond.code yJ3_checkFromToIndex_8c36e prog_19_method_12_code (4 : Nat) (Option.some Jvm.ClassFile.FieldType.int)) ∈ pm_T := pm_t3 (List.mem_of_getElem? (i := 87) rfl) rfl
theorem w3_88 : (Cond.methodLink "java/lang/StringUTF16" (244 : Nat) yJ2_indexOfCharUnsafe_4cfef) ∈ pm_T := pm_t3 (List.mem_of_getElem? (i := 88) rfl) rfl
theorem w3_89 : (Cond.static yJ2_indexOfCharUnsafe_4cfef) ∈ pm_T := pm_t3 (List.mem_of_getElem? (i := 89) rfl) rfl
theorem w3_90 : (Cond.code yJ2_indexOfCharUnsafe_4cfef prog_16_method_48_code (5 : Nat) (Option.some Jvm.ClassFile.FieldType.int)) ∈ pm_T := pm_t3 (List.mem_of_getElem? (i := 90) rfl) rfl
theorem w3_91 : (Cond.methodLink "java/lang/StringUTF16" (71 : Nat) yJ2_getChar_3b067) ∈ pm_T := pm_t3 (List.mem_of_getElem? (i := 91) rfl) rfl
theorem w3_92 : (Cond.static yJ2_getChar_3b067) ∈ pm_T := pm_t3 (List.mem_of_getElem? (i := 92) rfl) rfl
theorem w3_93 : (Cond.code yJ2_getChar_3b067 prog_16_method_5_code (2 : Nat) (Option.some Jvm.ClassFile.FieldType.char)) ∈ pm_T := pm_t3 (List.mem_of_getElem? (i := 93) rfl) rfl
theorem w3_94 : (Cond.fieldLink "java/lang/StringUTF16" (44 : Nat) "java/lang/StringUTF16" "$assertionsDisabled" "Z") ∈ pm_T := pm_t3 (List.mem_of_getElem? (i := 94) rfl) rfl
theorem w3_96 : (Cond.fieldLink "java/lang/StringUTF16" (59 : Nat) "java/lang/StringUTF16" "HI_BYTE_SHIFT" "I") ∈ pm_T := pm_t3 (List.mem_of_getElem? (i := 96) rfl) rfl
theorem w3_98 : (Cond.fieldLink "java/lang/StringUTF16" (63 : Nat) "java/lang/StringUTF16" "LO_BYTE_SHIFT" "I") ∈ pm_T := pm_t3 (List.mem_of_getElem? (i := 98) rfl) rfl
theorem w3_100 : (Cond.methodLink "java/lang/StringUTF16" (232 : Nat) yJ2_indexOfSupplementary_4cfef) ∈ pm_T := pm_t3 (List.mem_of_getElem? (i := 100) rfl) rfl
theorem w3_101 : (Cond.static yJ2_indexOfSupplementary_4cfef) ∈ pm_T := pm_t3 (List.mem_of_getElem? (i := 101) rfl) rfl
theorem w3_102 : (Cond.code yJ2_indexOfSupplementary_4cfef prog_16_method_49_code (7 : Nat) (Option.some Jvm.ClassFile.FieldType.int)) ∈ pm_T := pm_t3 (List.mem_of_getElem? (i := 102) rfl) rfl
theorem w3_103 : (Cond.methodLink "java/lang/StringUTF16" (164 : Nat) yJ11_isValidCodePoint_9a6ad) ∈ pm_T := pm_t3 (List.mem_of_getElem? (i := 103) rfl) rfl
theorem w3_104 : (Cond.static yJ11_isValidCodePoint_9a6ad) ∈ pm_T := pm_t3 (List.mem_of_getElem? (i := 104) rfl) rfl
theorem w3_105 : (Cond.code yJ11_isValidCodePoint_9a6ad prog_12_method_11_code (2 : Nat) (Option.some Jvm.ClassFile.FieldType.boolean)) ∈ pm_T := pm_t3 (List.mem_of_getElem? (i := 105) rfl) rfl
theorem w3_106 : (Cond.methodLink "java/lang/StringUTF16" (157 : Nat) yJ11_highSurrogate_5068e) ∈ pm_T := pm_t3 (List.mem_of_getElem? (i := 106) rfl) rfl
theorem w3_107 : (Cond.static yJ11_highSurrogate_5068e) ∈ pm_T := pm_t3 (List.mem_of_getElem? (i := 107) rfl) rfl
theorem w3_108 : (Cond.code yJ11_highSurrogate_5068e prog_12_method_28_code (1 : Nat) (Option.some Jvm.ClassFile.FieldType.char)) ∈ pm_T := pm_t3 (List.mem_of_getElem? (i := 108) rfl) rfl
theorem w3_109 : (Cond.constant "java/lang/Character" (110 : Nat) (55232 : Int32)) ∈ pm_T := pm_t3 (List.mem_of_getElem? (i := 109) rfl) rfl
theorem w3_110 : (Cond.methodLink "java/lang/StringUTF16" (161 : Nat) yJ11_lowSurrogate_5068e) ∈ pm_T := pm_t3 (List.mem_of_getElem? (i := 110) rfl) rfl
theorem w3_111 : (Cond.static yJ11_lowSurrogate_5068e) ∈ pm_T := pm_t3 (List.mem_of_getElem? (i := 111) rfl) rfl
theorem w3_112 : (Cond.code yJ11_lowSurrogate_5068e prog_12_method_29_code (1 : Nat) (Option.some Jvm.ClassFile.FieldType.char)) ∈ pm_T := pm_t3 (List.mem_of_getElem? (i := 112) rfl) rfl
theorem w3_113 : (Cond.constant "java/lang/Character" (76 : Nat) (56320 : Int32)) ∈ pm_T := pm_t3 (List.mem_of_getElem? (i := 113) rfl) rfl
theorem w3_114 : (Cond.methodLink "WriterPace$Reader" (65 : Nat) yX5_readHead) ∈ pm_T := pm_t3 (List.mem_of_getElem? (i := 114) rfl) rfl
theorem w3_116 : (Cond.instanceMethod yX5_readHead) ∈ pm_T := pm_t3 (List.mem_of_getElem? (i := 116) rfl) rfl
theorem w3_117 : (Cond.code yX5_readHead prog_7_method_3_code (1 : Nat) (Option.some Jvm.ClassFile.FieldType.boolean)) ∈ pm_T := pm_t3 (List.mem_of_getElem? (i := 117) rfl) rfl
theorem w3_119 : (Cond.methodLink "WriterPace$Reader" (74 : Nat) yX5_takeWord) ∈ pm_T := pm_t3 (List.mem_of_getElem? (i := 119) rfl) rfl
theorem w3_121 : (Cond.instanceMethod yX5_takeWord) ∈ pm_T := pm_t3 (List.mem_of_getElem? (i := 121) rfl) rfl
theorem w3_122 : (Cond.code yX5_takeWord prog_7_method_19_code (2 : Nat) (Option.some Jvm.ClassFile.FieldType.boolean)) ∈ pm_T := pm_t3 (List.mem_of_getElem? (i := 122) rfl) rfl
theorem w3_123 : (Cond.methodLink "WriterPace$Reader" (120 : Nat) yX5_isWord) ∈ pm_T := pm_t3 (List.mem_of_getElem? (i := 123) rfl) rfl
theorem w3_125 : (Cond.instanceMethod yX5_isWord) ∈ pm_T := pm_t3 (List.mem_of_getElem? (i := 125) rfl) rfl
theorem w3_126 : (Cond.code yX5_isWord prog_7_method_23_code (3 : Nat) (Option.some Jvm.ClassFile.FieldType.boolean)) ∈ pm_T := pm_t3 (List.mem_of_getElem? (i := 126) rfl) rfl
theorem w3_127 : (Cond.methodLink "WriterPace$Reader" (238 : Nat) yJ0_length_8abf5) ∈ pm_T := pm_t3 (List.mem_of_getElem? (i := 127) rfl) rfl
theorem w3_128 : (Cond.methodLink "WriterPace$Reader" (242 : Nat) yJ0_charAt_5068e) ∈ pm_T := pm_t3 (List.mem_of_getElem? (i := 128) rfl) rfl
theorem w3_129 : (Cond.instanceMethod yJ0_charAt_5068e) ∈ pm_T := pm_t3 (List.mem_of_getElem? (i := 129) rfl) rfl
theorem w3_130 : (Cond.selects "java/lang/String" yJ0_charAt_5068e yJ0_charAt_5068e) ∈ pm_T := pm_t3 (List.mem_of_getElem? (i := 130) rfl) rfl
theorem w3_131 : (Cond.code yJ0_charAt_5068e prog_14_method_56_code (2 : Nat) (Option.some Jvm.ClassFile.FieldType.char)) ∈ pm_T := pm_t3 (List.mem_of_getElem? (i := 131) rfl) rfl
theorem w3_132 : (Cond.methodLink "java/lang/String" (495 : Nat) yJ1_charAt_3b067) ∈ pm_T := pm_t3 (List.mem_of_getElem? (i := 132) rfl) rfl
theorem w3_133 : (Cond.static yJ1_charAt_3b067) ∈ pm_T := pm_t3 (List.mem_of_getElem? (i := 133) rfl) rfl
theorem w3_134 : (Cond.code yJ1_charAt_3b067 prog_15_method_2_code (2 : Nat) (Option.some Jvm.ClassFile.FieldType.char)) ∈ pm_T := pm_t3 (List.mem_of_getElem? (i := 134) rfl) rfl
theorem w3_135 : (Cond.methodLink "java/lang/StringLatin1" (9 : Nat) yJ0_checkIndex_df160) ∈ pm_T := pm_t3 (List.mem_of_getElem? (i := 135) rfl) rfl
theorem w3_136 : (Cond.static yJ0_checkIndex_df160) ∈ pm_T := pm_t3 (List.mem_of_getElem? (i := 136) rfl) rfl
theorem w3_137 : (Cond.code yJ0_checkIndex_df160 prog_14_method_155_code (2 : Nat) (Option.none : Option Jvm.ClassFile.FieldType)) ∈ pm_T := pm_t3 (List.mem_of_getElem? (i := 137) rfl) rfl
theorem w3_138 : (Cond.methodLink "java/lang/String" (1059 : Nat) yJ3_checkIndex_8e157) ∈ pm_T := pm_t3 (List.mem_of_getElem? (i := 138) rfl) rfl
theorem w3_139 : (Cond.static yJ3_checkIndex_8e157) ∈ pm_T := pm_t3 (List.mem_of_getElem? (i := 139) rfl) rfl
theorem w3_140 : (Cond.code yJ3_checkIndex_8e157 prog_19_method_11_code (3 : Nat) (Option.some Jvm.ClassFile.FieldType.int)) ∈ pm_T := pm_t3 (List.mem_of_getElem? (i := 140) rfl) rfl
theorem w3_141 : (Cond.methodLink "java/lang/String" (498 : Nat) yJ2_charAt_3b067) ∈ pm_T := pm_t3 (List.mem_of_getElem? (i := 141) rfl) rfl
theorem w3_142 : (Cond.static yJ2_charAt_3b067) ∈ pm_T := pm_t3 (List.mem_of_getElem? (i := 142) rfl) rfl
theorem w3_143 : (Cond.code yJ2_charAt_3b067 prog_16_method_83_code (2 : Nat) (Option.some Jvm.ClassFile.FieldType.char)) ∈ pm_T := pm_t3 (List.mem_of_getElem? (i := 143) rfl) rfl
theorem w3_144 : (Cond.methodLink "java/lang/StringUTF16" (67 : Nat) yJ2_checkIndex_2214a) ∈ pm_T := pm_t3 (List.mem_of_getElem? (i := 144) rfl) rfl
theorem w3_145 : (Cond.static yJ2_checkIndex_2214a) ∈ pm_T := pm_t3 (List.mem_of_getElem? (i := 145) rfl) rfl
theorem w3_146 : (Cond.code yJ2_checkIndex_2214a prog_16_method_91_code (2 : Nat) (Option.none : Option Jvm.ClassFile.FieldType)) ∈ pm_T := pm_t3 (List.mem_of_getElem? (i := 146) rfl) rfl
theorem w3_147 : (Cond.methodLink "java/lang/StringUTF16" (414 : Nat) yJ0_checkIndex_df160) ∈ pm_T := pm_t3 (List.mem_of_getElem? (i := 147) rfl) rfl
theorem w3_148 : (Cond.methodLink "WriterPace$Reader" (144 : Nat) yX5_refuse) ∈ pm_T := pm_t3 (List.mem_of_getElem? (i := 148) rfl) rfl
theorem w3_150 : (Cond.instanceMethod yX5_refuse) ∈ pm_T := pm_t3 (List.mem_of_getElem? (i := 150) rfl) rfl
theorem w3_151 : (Cond.code yX5_refuse prog_7_method_22_code (2 : Nat) (Option.some Jvm.ClassFile.FieldType.boolean)) ∈ pm_T := pm_t3 (List.mem_of_getElem? (i := 151) rfl) rfl
theorem w3_153 : (Cond.methodLink "WriterPace$Reader" (80 : Nat) yX5_takeNumber) ∈ pm_T := pm_t3 (List.mem_of_getElem? (i := 153) rfl) rfl
theorem w3_155 : (Cond.instanceMethod yX5_takeNumber) ∈ pm_T := pm_t3 (List.mem_of_getElem? (i := 155) rfl) rfl
theorem w3_156 : (Cond.code yX5_takeNumber prog_7_method_21_code (3 : Nat) (Option.some Jvm.ClassFile.FieldType.boolean)) ∈ pm_T := pm_t3 (List.mem_of_getElem? (i := 156) rfl) rfl
theorem w3_163 : (Cond.methodLink "WriterPace$Reader" (114 : Nat) yX5_takeSign) ∈ pm_T := pm_t3 (List.mem_of_getElem? (i := 163) rfl) rfl
theorem w3_165 : (Cond.instanceMethod yX5_takeSign) ∈ pm_T := pm_t3 (List.mem_of_getElem? (i := 165) rfl) rfl
theorem w3_166 : (Cond.code yX5_takeSign prog_7_method_20_code (2 : Nat) (Option.some Jvm.ClassFile.FieldType.boolean)) ∈ pm_T := pm_t3 (List.mem_of_getElem? (i := 166) rfl) rfl
theorem w3_167 : (Cond.methodLink "WriterPace$Reader" (189 : Nat) yX5_isSign) ∈ pm_T := pm_t3 (List.mem_of_getElem? (i := 167) rfl) rfl
theorem w3_169 : (Cond.instanceMethod yX5_isSign) ∈ pm_T := pm_t3 (List.mem_of_getElem? (i := 169) rfl) rfl
theorem w3_170 : (Cond.code yX5_isSign prog_7_method_24_code (2 : Nat) (Option.some Jvm.ClassFile.FieldType.boolean)) ∈ pm_T := pm_t3 (List.mem_of_getElem? (i := 170) rfl) rfl
theorem w3_171 : (Cond.methodLink "WriterPace$Reader" (69 : Nat) yX5_readLine) ∈ pm_T := pm_t3 (List.mem_of_getElem? (i := 171) rfl) rfl
theorem w3_173 : (Cond.instanceMethod yX5_readLine) ∈ pm_T := pm_t3 (List.mem_of_getElem? (i := 173) rfl) rfl
theorem w3_174 : (Cond.code yX5_readLine prog_7_method_4_code (2 : Nat) (Option.some Jvm.ClassFile.FieldType.boolean)) ∈ pm_T := pm_t3 (List.mem_of_getElem? (i := 174) rfl) rfl
theorem w3_176 : (Cond.methodLink "WriterPace$Reader" (123 : Nat) yX5_readDevice) ∈ pm_T := pm_t3 (List.mem_of_getElem? (i := 176) rfl) rfl
theorem w3_178 : (Cond.instanceMethod yX5_readDevice) ∈ pm_T := pm_t3 (List.mem_of_getElem? (i := 178) rfl) rfl
theorem w3_179 : (Cond.code yX5_readDevice prog_7_method_5_code (1 : Nat) (Option.some Jvm.ClassFile.FieldType.boolean)) ∈ pm_T := pm_t3 (List.mem_of_getElem? (i := 179) rfl) rfl
theorem w3_181 : (Cond.methodLink "WriterPace$Reader" (151 : Nat) yX2_addDevice) ∈ pm_T := pm_t3 (List.mem_of_getElem? (i := 181) rfl) rfl
theorem w3_182 : (Cond.instanceMethod yX2_addDevice) ∈ pm_T := pm_t3 (List.mem_of_getElem? (i := 182) rfl) rfl
theorem w3_183 : (Cond.selects "WriterPace$Host" yX2_addDevice yX2_addDevice) ∈ pm_T := pm_t3 (List.mem_of_getElem? (i := 183) rfl) rfl
theorem w3_184 : (Cond.code yX2_addDevice prog_4_method_4_code (2 : Nat) (Option.none : Option Jvm.ClassFile.FieldType)) ∈ pm_T := pm_t3 (List.mem_of_getElem? (i := 184) rfl) rfl
theorem w3_186 : (Cond.methodLink "WriterPace$Reader" (128 : Nat) yX5_readFile) ∈ pm_T := pm_t3 (List.mem_of_getElem? (i := 186) rfl) rfl
theorem w3_188 : (Cond.instanceMethod yX5_readFile) ∈ pm_T := pm_t3 (List.mem_of_getElem? (i := 188) rfl) rfl
theorem w3_189 : (Cond.code yX5_readFile prog_7_method_6_code (1 : Nat) (Option.some Jvm.ClassFile.FieldType.boolean)) ∈ pm_T := pm_t3 (List.mem_of_getElem? (i := 189) rfl) rfl
theorem w3_191 : (Cond.methodLink "WriterPace$Reader" (160 : Nat) yX2_addFile) ∈ pm_T := pm_t3 (List.mem_of_getElem? (i := 191) rfl) rfl
theorem w3_192 : (Cond.instanceMethod yX2_addFile) ∈ pm_T := pm_t3 (List.mem_of_getElem? (i := 192) rfl) rfl
theorem w3_193 : (Cond.selects "WriterPace$Host" yX2_addFile yX2_addFile) ∈ pm_T := pm_t3 (List.mem_of_getElem? (i := 193) rfl) rfl
theorem w3_194 : (Cond.code yX2_addFile prog_4_method_5_code (2 : Nat) (Option.none : Option Jvm.ClassFile.FieldType)) ∈ pm_T := pm_t3 (List.mem_of_getElem? (i := 194) rfl) rfl
theorem w3_196 : (Cond.methodLink "WriterPace$Reader" (133 : Nat) yX5_readWriter) ∈ pm_T := pm_t3 (List.mem_of_getElem? (i := 196) rfl) rfl
theorem w3_198 : (Cond.instanceMethod yX5_readWriter) ∈ pm_T := pm_t3 (List.mem_of_getElem? (i := 198) rfl) rfl
theorem w3_199 : (Cond.code yX5_readWriter prog_7_method_7_code (2 : Nat) (Option.some Jvm.ClassFile.FieldType.boolean)) ∈ pm_T := pm_t3 (List.mem_of_getElem? (i := 199) rfl) rfl
theorem w3_202 : (Cond.methodLink "WriterPace$Reader" (168 : Nat) yX2_addWriter) ∈ pm_T := pm_t3 (List.mem_of_getElem? (i := 202) rfl) rfl
theorem w3_203 : (Cond.instanceMethod yX2_addWriter) ∈ pm_T := pm_t3 (List.mem_of_getElem? (i := 203) rfl) rfl
theorem w3_204 : (Cond.selects "WriterPace$Host" yX2_addWriter yX2_addWriter) ∈ pm_T := pm_t3 (List.mem_of_getElem? (i := 204) rfl) rfl
theorem w3_205 : (Cond.code yX2_addWriter prog_4_method_6_code (3 : Nat) (Option.none : Option Jvm.ClassFile.FieldType)) ∈ pm_T := pm_t3 (List.mem_of_getElem? (i := 205) rfl) rfl
theorem w3_206 : (Cond.methodLink "WriterPace$Reader" (138 : Nat) yX5_readLaw) ∈ pm_T := pm_t3 (List.mem_of_getElem? (i := 206) rfl) rfl
theorem w3_208 : (Cond.instanceMethod yX5_readLaw) ∈ pm_T := pm_t3 (List.mem_of_getElem? (i := 208) rfl) rfl
theorem w3_209 : (Cond.code yX5_readLaw prog_7_method_8_code (3 : Nat) (Option.some Jvm.ClassFile.FieldType.boolean)) ∈ pm_T := pm_t3 (List.mem_of_getElem? (i := 209) rfl) rfl
theorem w3_210 : (Cond.methodLink "WriterPace$Reader" (179 : Nat) yX5_readSum) ∈ pm_T := pm_t3 (List.mem_of_getElem? (i := 210) rfl) rfl
theorem w3_212 : (Cond.instanceMethod yX5_readSum) ∈ pm_T := pm_t3 (List.mem_of_getElem? (i := 212) rfl) rfl
theorem w3_213 : (Cond.code yX5_readSum prog_7_method_9_code (4 : Nat) (Option.some Jvm.ClassFile.FieldType.boolean)) ∈ pm_T := pm_t3 (List.mem_of_getElem? (i := 213) rfl) rfl
theorem w3_214 : (Cond.methodLink "WriterPace$Reader" (186 : Nat) yX5_readTerm) ∈ pm_T := pm_t3 (List.mem_of_getElem? (i := 214) rfl) rfl
theorem w3_216 : (Cond.instanceMethod yX5_readTerm) ∈ pm_T := pm_t3 (List.mem_of_getElem? (i := 216) rfl) rfl
theorem w3_217 : (Cond.code yX5_readTerm prog_7_method_10_code (3 : Nat) (Option.some Jvm.ClassFile.FieldType.boolean)) ∈ pm_T := pm_t3 (List.mem_of_getElem? (i := 217) rfl) rfl
theorem w3_218 : (Cond.methodLink "WriterPace$Reader" (195 : Nat) yX5_readAtom) ∈ pm_T := pm_t3 (List.mem_of_getElem? (i := 218) rfl) rfl
theorem w3_220 : (Cond.instanceMethod yX5_readAtom) ∈ pm_T := pm_t3 (List.mem_of_getElem? (i := 220) rfl) rfl
theorem w3_221 : (Cond.code yX5_readAtom prog_7_method_11_code (2 : Nat) (Option.some Jvm.ClassFile.FieldType.boolean)) ∈ pm_T := pm_t3 (List.mem_of_getElem? (i := 221) rfl) rfl
theorem w3_222 : (Cond.methodLink "WriterPace$Reader" (198 : Nat) yX5_goDeeper) ∈ pm_T := pm_t3 (List.mem_of_getElem? (i := 222) rfl) rfl
theorem w3_224 : (Cond.instanceMethod yX5_goDeeper) ∈ pm_T := pm_t3 (List.mem_of_getElem? (i := 224) rfl) rfl
theorem w3_225 : (Cond.code yX5_goDeeper prog_7_method_18_code (1 : Nat) (Option.some Jvm.ClassFile.FieldType.boolean)) ∈ pm_T := pm_t3 (List.mem_of_getElem? (i := 225) rfl) rfl
theorem w3_227 : (Cond.methodLink "WriterPace$Reader" (203 : Nat) yX5_readChoice) ∈ pm_T := pm_t3 (List.mem_of_getElem? (i := 227) rfl) rfl
theorem w3_229 : (Cond.instanceMethod yX5_readChoice) ∈ pm_T := pm_t3 (List.mem_of_getElem? (i := 229) rfl) rfl
theorem w3_230 : (Cond.code yX5_readChoice prog_7_method_13_code (1 : Nat) (Option.some Jvm.ClassFile.FieldType.boolean)) ∈ pm_T := pm_t3 (List.mem_of_getElem? (i := 230) rfl) rfl
theorem w3_231 : (Cond.methodLink "WriterPace$Reader" (214 : Nat) yX5_readTruth) ∈ pm_T := pm_t3 (List.mem_of_getElem? (i := 231) rfl) rfl
theorem w3_233 : (Cond.instanceMethod yX5_readTruth) ∈ pm_T := pm_t3 (List.mem_of_getElem? (i := 233) rfl) rfl
theorem w3_234 : (Cond.code yX5_readTruth prog_7_method_14_code (3 : Nat) (Option.some Jvm.ClassFile.FieldType.boolean)) ∈ pm_T := pm_t3 (List.mem_of_getElem? (i := 234) rfl) rfl
theorem w3_235 : (Cond.methodLink "WriterPace$Reader" (223 : Nat) yX5_readBoth) ∈ pm_T := pm_t3 (List.mem_of_getElem? (i := 235) rfl) rfl
theorem w3_237 : (Cond.instanceMethod yX5_readBoth) ∈ pm_T := pm_t3 (List.mem_of_getElem? (i := 237) rfl) rfl
theorem w3_238 : (Cond.code yX5_readBoth prog_7_method_15_code (3 : Nat) (Option.some Jvm.ClassFile.FieldType.boolean)) ∈ pm_T := pm_t3 (List.mem_of_getElem? (i := 238) rfl) rfl
theorem w3_239 : (Cond.methodLink "WriterPace$Reader" (228 : Nat) yX5_readUnit) ∈ pm_T := pm_t3 (List.mem_of_getElem? (i := 239) rfl) rfl
theorem w4_1 : (Cond.instanceMethod yX5_readUnit) ∈ pm_T := pm_t4 (List.mem_of_getElem? (i := 1) rfl) rfl
theorem w4_2 : (Cond.code yX5_readUnit prog_7_method_16_code (1 : Nat) (Option.some Jvm.ClassFile.FieldType.boolean)) ∈ pm_T := pm_t4 (List.mem_of_getElem? (i := 2) rfl) rfl
theorem w4_4 : (Cond.methodLink "WriterPace$Reader" (192 : Nat) yX3_append) ∈ pm_T := pm_t4 (List.mem_of_getElem? (i := 4) rfl) rfl
theorem w4_5 : (Cond.instanceMethod yX3_append) ∈ pm_T := pm_t4 (List.mem_of_getElem? (i := 5) rfl) rfl
theorem w4_6 : (Cond.selects "WriterPace$Laws" yX3_append yX3_append) ∈ pm_T := pm_t4 (List.mem_of_getElem? (i := 6) rfl) rfl
theorem w4_7 : (Cond.code yX3_append prog_5_method_4_code (2 : Nat) (Option.none : Option Jvm.ClassFile.FieldType)) ∈ pm_T := pm_t4 (List.mem_of_getElem? (i := 7) rfl) rfl
theorem w4_8 : (Cond.methodLink "WriterPace$Reader" (235 : Nat) yX5_readCompared) ∈ pm_T := pm_t4 (List.mem_of_getElem? (i := 8) rfl) rfl
theorem w4_10 : (Cond.instanceMethod yX5_readCompared) ∈ pm_T := pm_t4 (List.mem_of_getElem? (i := 10) rfl) rfl
theorem w4_11 : (Cond.code yX5_readCompared prog_7_method_17_code (3 : Nat) (Option.some Jvm.ClassFile.FieldType.boolean)) ∈ pm_T := pm_t4 (List.mem_of_getElem? (i := 11) rfl) rfl
theorem w4_17 : (Cond.methodLink "WriterPace$Reader" (206 : Nat) yX5_itemOfAtom) ∈ pm_T := pm_t4 (List.mem_of_getElem? (i := 17) rfl) rfl
theorem w4_19 : (Cond.instanceMethod yX5_itemOfAtom) ∈ pm_T := pm_t4 (List.mem_of_getElem? (i := 19) rfl) rfl
theorem w4_20 : (Cond.code yX5_itemOfAtom prog_7_method_12_code (1 : Nat) (Option.some Jvm.ClassFile.FieldType.int)) ∈ pm_T := pm_t4 (List.mem_of_getElem? (i := 20) rfl) rfl
theorem w4_23 : (Cond.methodLink "WriterPace$Reader" (182 : Nat) yX3_enact) ∈ pm_T := pm_t4 (List.mem_of_getElem? (i := 23) rfl) rfl
theorem w4_24 : (Cond.instanceMethod yX3_enact) ∈ pm_T := pm_t4 (List.mem_of_getElem? (i := 24) rfl) rfl
theorem w4_25 : (Cond.selects "WriterPace$Laws" yX3_enact yX3_enact) ∈ pm_T := pm_t4 (List.mem_of_getElem? (i := 25) rfl) rfl
theorem w4_26 : (Cond.code yX3_enact prog_5_method_5_code (3 : Nat) (Option.none : Option Jvm.ClassFile.FieldType)) ∈ pm_T := pm_t4 (List.mem_of_getElem? (i := 26) rfl) rfl
theorem w4_27 : (Cond.methodLink "WriterPace" (103 : Nat) yX2_copyFrom) ∈ pm_T := pm_t4 (List.mem_of_getElem? (i := 27) rfl) rfl
theorem w4_28 : (Cond.instanceMethod yX2_copyFrom) ∈ pm_T := pm_t4 (List.mem_of_getElem? (i := 28) rfl) rfl
theorem w4_29 : (Cond.selects "WriterPace$Host" yX2_copyFrom yX2_copyFrom) ∈ pm_T := pm_t4 (List.mem_of_getElem? (i := 29) rfl) rfl
theorem w4_30 : (Cond.code yX2_copyFrom prog_4_method_3_code (2 : Nat) (Option.none : Option Jvm.ClassFile.FieldType)) ∈ pm_T := pm_t4 (List.mem_of_getElem? (i := 30) rfl) rfl
theorem w4_31 : (Cond.methodLink "WriterPace$Host" (80 : Nat) arraycopyName) ∈ pm_T := pm_t4 (List.mem_of_getElem? (i := 31) rfl) rfl
theorem w4_32 : (Cond.methodLink "WriterPace$Host" (86 : Nat) yX3_copyFrom) ∈ pm_T := pm_t4 (List.mem_of_getElem? (i := 32) rfl) rfl
theorem w4_33 : (Cond.instanceMethod yX3_copyFrom) ∈ pm_T := pm_t4 (List.mem_of_getElem? (i := 33) rfl) rfl
theorem w4_34 : (Cond.selects "WriterPace$Laws" yX3_copyFrom yX3_copyFrom) ∈ pm_T := pm_t4 (List.mem_of_getElem? (i := 34) rfl) rfl
theorem w4_35 : (Cond.code yX3_copyFrom prog_5_method_3_code (2 : Nat) (Option.none : Option Jvm.ClassFile.FieldType)) ∈ pm_T := pm_t4 (List.mem_of_getElem? (i := 35) rfl) rfl
theorem w4_36 : (Cond.methodLink "WriterPace$Laws" (31 : Nat) arraycopyName) ∈ pm_T := pm_t4 (List.mem_of_getElem? (i := 36) rfl) rfl
theorem w4_37 : (Cond.methodLink "WriterPace" (106 : Nat) yX0_forgetLaws) ∈ pm_T := pm_t4 (List.mem_of_getElem? (i := 37) rfl) rfl
theorem w4_38 : (Cond.instanceMethod yX0_forgetLaws) ∈ pm_T := pm_t4 (List.mem_of_getElem? (i := 38) rfl) rfl
theorem w4_39 : (Cond.selects "WriterPace$Clock" yX0_forgetLaws yX0_forgetLaws) ∈ pm_T := pm_t4 (List.mem_of_getElem? (i := 39) rfl) rfl
theorem w4_40 : (Cond.code yX0_forgetLaws prog_2_method_2_code (1 : Nat) (Option.none : Option Jvm.ClassFile.FieldType)) ∈ pm_T := pm_t4 (List.mem_of_getElem? (i := 40) rfl) rfl
theorem w4_41 : (Cond.methodLink "WriterPace$Clock" (24 : Nat) yX4_forget) ∈ pm_T := pm_t4 (List.mem_of_getElem? (i := 41) rfl) rfl
theorem w4_42 : (Cond.instanceMethod yX4_forget) ∈ pm_T := pm_t4 (List.mem_of_getElem? (i := 42) rfl) rfl
theorem w4_43 : (Cond.selects "WriterPace$Oracle" yX4_forget yX4_forget) ∈ pm_T := pm_t4 (List.mem_of_getElem? (i := 43) rfl) rfl
theorem w4_44 : (Cond.code yX4_forget prog_6_method_2_code (1 : Nat) (Option.none : Option Jvm.ClassFile.FieldType)) ∈ pm_T := pm_t4 (List.mem_of_getElem? (i := 44) rfl) rfl
theorem w4_45 : (Cond.methodLink "WriterPaceLaw" (23 : Nat) yX8_fault) ∈ pm_T := pm_t4 (List.mem_of_getElem? (i := 45) rfl) rfl
theorem w4_46 : (Cond.instanceMethod yX8_fault) ∈ pm_T := pm_t4 (List.mem_of_getElem? (i := 46) rfl) rfl
theorem w4_47 : (Cond.selects "WriterPace" yX8_fault yX8_fault) ∈ pm_T := pm_t4 (List.mem_of_getElem? (i := 47) rfl) rfl
theorem w4_48 : (Cond.code yX8_fault prog_1_method_4_code (2 : Nat) (Option.some Jvm.ClassFile.FieldType.int)) ∈ pm_T := pm_t4 (List.mem_of_getElem? (i := 48) rfl) rfl
theorem w4_49 : (Cond.methodLink "WriterPaceLaw" (27 : Nat) yX8_set) ∈ pm_T := pm_t4 (List.mem_of_getElem? (i := 49) rfl) rfl
theorem w4_50 : (Cond.instanceMethod yX8_set) ∈ pm_T := pm_t4 (List.mem_of_getElem? (i := 50) rfl) rfl
theorem w4_51 : (Cond.selects "WriterPace" yX8_set yX8_set) ∈ pm_T := pm_t4 (List.mem_of_getElem? (i := 51) rfl) rfl
theorem w4_52 : (Cond.code yX8_set prog_1_method_5_code (2 : Nat) (Option.some Jvm.ClassFile.FieldType.int)) ∈ pm_T := pm_t4 (List.mem_of_getElem? (i := 52) rfl) rfl
theorem w4_53 : (Cond.methodLink "WriterPace" (136 : Nat) yX0_freeOf) ∈ pm_T := pm_t4 (List.mem_of_getElem? (i := 53) rfl) rfl
theorem w4_54 : (Cond.instanceMethod yX0_freeOf) ∈ pm_T := pm_t4 (List.mem_of_getElem? (i := 54) rfl) rfl
theorem w4_55 : (Cond.selects "WriterPace$Clock" yX0_freeOf yX0_freeOf) ∈ pm_T := pm_t4 (List.mem_of_getElem? (i := 55) rfl) rfl
theorem w4_56 : (Cond.code yX0_freeOf prog_2_method_11_code (2 : Nat) (Option.some Jvm.ClassFile.FieldType.int)) ∈ pm_T := pm_t4 (List.mem_of_getElem? (i := 56) rfl) rfl
theorem w4_57 : (Cond.methodLink "WriterPaceLaw" (31 : Nat) yX8_device) ∈ pm_T := pm_t4 (List.mem_of_getElem? (i := 57) rfl) rfl
theorem w4_58 : (Cond.instanceMethod yX8_device) ∈ pm_T := pm_t4 (List.mem_of_getElem? (i := 58) rfl) rfl
theorem w4_59 : (Cond.selects "WriterPace" yX8_device yX8_device) ∈ pm_T := pm_t4 (List.mem_of_getElem? (i := 59) rfl) rfl
theorem w4_60 : (Cond.code yX8_device prog_1_method_6_code (4 : Nat) (Option.some Jvm.ClassFile.FieldType.long)) ∈ pm_T := pm_t4 (List.mem_of_getElem? (i := 60) rfl) rfl
theorem w4_61 : (Cond.methodLink "WriterPace" (140 : Nat) yX8_isDevice) ∈ pm_T := pm_t4 (List.mem_of_getElem? (i := 61) rfl) rfl
theorem w4_63 : (Cond.instanceMethod yX8_isDevice) ∈ pm_T := pm_t4 (List.mem_of_getElem? (i := 63) rfl) rfl
theorem w4_64 : (Cond.code yX8_isDevice prog_1_method_41_code (2 : Nat) (Option.some Jvm.ClassFile.FieldType.boolean)) ∈ pm_T := pm_t4 (List.mem_of_getElem? (i := 64) rfl) rfl
theorem w4_65 : (Cond.constantLong "WriterPace" (143 : Nat) (-2 : Int64)) ∈ pm_T := pm_t4 (List.mem_of_getElem? (i := 65) rfl) rfl
theorem w4_66 : (Cond.constantDouble "WriterPace" (168 : Nat) (4652007308841189376 : UInt64)) ∈ pm_T := pm_t4 (List.mem_of_getElem? (i := 66) rfl) rfl
theorem w4_67 : (Cond.methodLink "WriterPace" (173 : Nat) yX0_shareOf) ∈ pm_T := pm_t4 (List.mem_of_getElem? (i := 67) rfl) rfl
theorem w4_68 : (Cond.instanceMethod yX0_shareOf) ∈ pm_T := pm_t4 (List.mem_of_getElem? (i := 68) rfl) rfl
theorem w4_69 : (Cond.selects "WriterPace$Clock" yX0_shareOf yX0_shareOf) ∈ pm_T := pm_t4 (List.mem_of_getElem? (i := 69) rfl) rfl
theorem w4_70 : (Cond.code yX0_shareOf prog_2_method_14_code (5 : Nat) (Option.some Jvm.ClassFile.FieldType.int)) ∈ pm_T := pm_t4 (List.mem_of_getElem? (i := 70) rfl) rfl
theorem w4_71 : (Cond.methodLink "WriterPace$Clock" (155 : Nat) yJ9_max_7cf53) ∈ pm_T := pm_t4 (List.mem_of_getElem? (i := 71) rfl) rfl
theorem w4_72 : (Cond.methodLink "WriterPaceLaw" (36 : Nat) yX8_file) ∈ pm_T := pm_t4 (List.mem_of_getElem? (i := 72) rfl) rfl
theorem w4_73 : (Cond.instanceMethod yX8_file) ∈ pm_T := pm_t4 (List.mem_of_getElem? (i := 73) rfl) rfl
theorem w4_74 : (Cond.selects "WriterPace" yX8_file yX8_file) ∈ pm_T := pm_t4 (List.mem_of_getElem? (i := 74) rfl) rfl
theorem w4_75 : (Cond.code yX8_file prog_1_method_7_code (3 : Nat) (Option.some Jvm.ClassFile.FieldType.int)) ∈ pm_T := pm_t4 (List.mem_of_getElem? (i := 75) rfl) rfl
theorem w4_76 : (Cond.methodLink "WriterPace" (190 : Nat) yX6_ageOf) ∈ pm_T := pm_t4 (List.mem_of_getElem? (i := 76) rfl) rfl
theorem w4_77 : (Cond.instanceMethod yX6_ageOf) ∈ pm_T := pm_t4 (List.mem_of_getElem? (i := 77) rfl) rfl
theorem w4_78 : (Cond.selects "WriterPace$State" yX6_ageOf yX6_ageOf) ∈ pm_T := pm_t4 (List.mem_of_getElem? (i := 78) rfl) rfl
theorem w4_79 : (Cond.code yX6_ageOf prog_8_method_4_code (2 : Nat) (Option.some Jvm.ClassFile.FieldType.int)) ∈ pm_T := pm_t4 (List.mem_of_getElem? (i := 79) rfl) rfl
theorem w4_80 : (Cond.methodLink "WriterPace" (194 : Nat) yX0_isOld) ∈ pm_T := pm_t4 (List.mem_of_getElem? (i := 80) rfl) rfl
theorem w4_81 : (Cond.instanceMethod yX0_isOld) ∈ pm_T := pm_t4 (List.mem_of_getElem? (i := 81) rfl) rfl
theorem w4_82 : (Cond.selects "WriterPace$Clock" yX0_isOld yX0_isOld) ∈ pm_T := pm_t4 (List.mem_of_getElem? (i := 82) rfl) rfl
theorem w4_83 : (Cond.code yX0_isOld prog_2_method_7_code (3 : Nat) (Option.some Jvm.ClassFile.FieldType.boolean)) ∈ pm_T := pm_t4 (List.mem_of_getElem? (i := 83) rfl) rfl
theorem w4_84 : (Cond.methodLink "WriterPaceLaw" (41 : Nat) yX8_writer) ∈ pm_T := pm_t4 (List.mem_of_getElem? (i := 84) rfl) rfl
theorem w4_85 : (Cond.instanceMethod yX8_writer) ∈ pm_T := pm_t4 (List.mem_of_getElem? (i := 85) rfl) rfl
theorem w4_86 : (Cond.selects "WriterPace" yX8_writer yX8_writer) ∈ pm_T := pm_t4 (List.mem_of_getElem? (i := 86) rfl) rfl
theorem w4_87 : (Cond.code yX8_writer prog_1_method_8_code (3 : Nat) (Option.some Jvm.ClassFile.FieldType.int)) ∈ pm_T := pm_t4 (List.mem_of_getElem? (i := 87) rfl) rfl
theorem w4_88 : (Cond.methodLink "WriterPace" (198 : Nat) yX8_isWriter) ∈ pm_T := pm_t4 (List.mem_of_getElem? (i := 88) rfl) rfl
theorem w4_90 : (Cond.instanceMethod yX8_isWriter) ∈ pm_T := pm_t4 (List.mem_of_getElem? (i := 90) rfl) rfl
theorem w4_91 : (Cond.code yX8_isWriter prog_1_method_42_code (2 : Nat) (Option.some Jvm.ClassFile.FieldType.boolean)) ∈ pm_T := pm_t4 (List.mem_of_getElem? (i := 91) rfl) rfl
theorem w4_92 : (Cond.methodLink "WriterPaceLaw" (45 : Nat) yX8_next) ∈ pm_T := pm_t4 (List.mem_of_getElem? (i := 92) rfl) rfl
theorem w4_93 : (Cond.instanceMethod yX8_next) ∈ pm_T := pm_t4 (List.mem_of_getElem? (i := 93) rfl) rfl
theorem w4_94 : (Cond.selects "WriterPace" yX8_next yX8_next) ∈ pm_T := pm_t4 (List.mem_of_getElem? (i := 94) rfl) rfl
theorem w4_95 : (Cond.code yX8_next prog_1_method_9_code (3 : Nat) (Option.some Jvm.ClassFile.FieldType.int)) ∈ pm_T := pm_t4 (List.mem_of_getElem? (i := 95) rfl) rfl
theorem w4_96 : (Cond.methodLink "WriterPace" (219 : Nat) yX0_oldestFile) ∈ pm_T := pm_t4 (List.mem_of_getElem? (i := 96) rfl) rfl
theorem w4_97 : (Cond.instanceMethod yX0_oldestFile) ∈ pm_T := pm_t4 (List.mem_of_getElem? (i := 97) rfl) rfl
theorem w4_98 : (Cond.selects "WriterPace$Clock" yX0_oldestFile yX0_oldestFile) ∈ pm_T := pm_t4 (List.mem_of_getElem? (i := 98) rfl) rfl
theorem w4_99 : (Cond.code yX0_oldestFile prog_2_method_8_code (5 : Nat) (Option.some Jvm.ClassFile.FieldType.int)) ∈ pm_T := pm_t4 (List.mem_of_getElem? (i := 99) rfl) rfl
theorem w4_100 : (Cond.methodLink "WriterPace$Clock" (139 : Nat) yX0_isOld) ∈ pm_T := pm_t4 (List.mem_of_getElem? (i := 100) rfl) rfl
theorem w4_101 : (Cond.methodLink "WriterPace" (222 : Nat) yX0_fileInTurn) ∈ pm_T := pm_t4 (List.mem_of_getElem? (i := 101) rfl) rfl
theorem w4_102 : (Cond.instanceMethod yX0_fileInTurn) ∈ pm_T := pm_t4 (List.mem_of_getElem? (i := 102) rfl) rfl
theorem w4_103 : (Cond.selects "WriterPace$Clock" yX0_fileInTurn yX0_fileInTurn) ∈ pm_T := pm_t4 (List.mem_of_getElem? (i := 103) rfl) rfl
theorem w4_104 : (Cond.code yX0_fileInTurn prog_2_method_9_code (6 : Nat) (Option.some Jvm.ClassFile.FieldType.int)) ∈ pm_T := pm_t4 (List.mem_of_getElem? (i := 104) rfl) rfl
theorem w4_105 : (Cond.methodLink "WriterPaceLaw" (49 : Nat) yX8_pause) ∈ pm_T := pm_t4 (List.mem_of_getElem? (i := 105) rfl) rfl
theorem w4_106 : (Cond.instanceMethod yX8_pause) ∈ pm_T := pm_t4 (List.mem_of_getElem? (i := 106) rfl) rfl
theorem w4_107 : (Cond.selects "WriterPace" yX8_pause yX8_pause) ∈ pm_T := pm_t4 (List.mem_of_getElem? (i := 107) rfl) rfl
theorem w4_108 : (Cond.code yX8_pause prog_1_method_10_code (3 : Nat) (Option.some Jvm.ClassFile.FieldType.int)) ∈ pm_T := pm_t4 (List.mem_of_getElem? (i := 108) rfl) rfl
theorem w4_109 : (Cond.methodLink "WriterPace" (225 : Nat) yX0_pauseOf) ∈ pm_T := pm_t4 (List.mem_of_getElem? (i := 109) rfl) rfl
theorem w4_110 : (Cond.instanceMethod yX0_pauseOf) ∈ pm_T := pm_t4 (List.mem_of_getElem? (i := 110) rfl) rfl
theorem w4_111 : (Cond.selects "WriterPace$Clock" yX0_pauseOf yX0_pauseOf) ∈ pm_T := pm_t4 (List.mem_of_getElem? (i := 111) rfl) rfl
theorem w4_112 : (Cond.code yX0_pauseOf prog_2_method_12_code (22 : Nat) (Option.some Jvm.ClassFile.FieldType.int)) ∈ pm_T := pm_t4 (List.mem_of_getElem? (i := 112) rfl) rfl
theorem w4_113 : (Cond.methodLink "WriterPace$Clock" (170 : Nat) yX0_freeOf) ∈ pm_T := pm_t4 (List.mem_of_getElem? (i := 113) rfl) rfl
theorem w4_114 : (Cond.constantDouble "WriterPace$Clock" (181 : Nat) (4611686018427387904 : UInt64)) ∈ pm_T := pm_t4 (List.mem_of_getElem? (i := 114) rfl) rfl
theorem w4_115 : (Cond.methodLink "WriterPace$Clock" (183 : Nat) yX0_fromZeroToTwo) ∈ pm_T := pm_t4 (List.mem_of_getElem? (i := 115) rfl) rfl
theorem w4_116 : (Cond.static yX0_fromZeroToTwo) ∈ pm_T := pm_t4 (List.mem_of_getElem? (i := 116) rfl) rfl
theorem w4_117 : (Cond.code yX0_fromZeroToTwo prog_2_method_13_code (2 : Nat) (Option.some Jvm.ClassFile.FieldType.double)) ∈ pm_T := pm_t4 (List.mem_of_getElem? (i := 117) rfl) rfl
theorem w4_118 : (Cond.methodLink "WriterPace$Clock" (187 : Nat) yX0_shareOf) ∈ pm_T := pm_t4 (List.mem_of_getElem? (i := 118) rfl) rfl
theorem w4_119 : (Cond.constantDouble "WriterPace$Clock" (104 : Nat) (4636737291354636288 : UInt64)) ∈ pm_T := pm_t4 (List.mem_of_getElem? (i := 119) rfl) rfl
theorem w4_120 : (Cond.methodLink "WriterPaceLaw" (53 : Nat) yX8_ticks) ∈ pm_T := pm_t4 (List.mem_of_getElem? (i := 120) rfl) rfl
theorem w4_121 : (Cond.instanceMethod yX8_ticks) ∈ pm_T := pm_t4 (List.mem_of_getElem? (i := 121) rfl) rfl
theorem w4_122 : (Cond.selects "WriterPace" yX8_ticks yX8_ticks) ∈ pm_T := pm_t4 (List.mem_of_getElem? (i := 122) rfl) rfl
theorem w4_123 : (Cond.code yX8_ticks prog_1_method_11_code (2 : Nat) (Option.some Jvm.ClassFile.FieldType.int)) ∈ pm_T := pm_t4 (List.mem_of_getElem? (i := 123) rfl) rfl
theorem w4_124 : (Cond.methodLink "WriterPace" (229 : Nat) yX8_isWithin) ∈ pm_T := pm_t4 (List.mem_of_getElem? (i := 124) rfl) rfl
theorem w4_125 : (Cond.static yX8_isWithin) ∈ pm_T := pm_t4 (List.mem_of_getElem? (i := 125) rfl) rfl
theorem w4_126 : (Cond.code yX8_isWithin prog_1_method_39_code (3 : Nat) (Option.some Jvm.ClassFile.FieldType.boolean)) ∈ pm_T := pm_t4 (List.mem_of_getElem? (i := 126) rfl) rfl
theorem w4_127 : (Cond.methodLink "WriterPace" (233 : Nat) yX6_copyFrom) ∈ pm_T := pm_t4 (List.mem_of_getElem? (i := 127) rfl) rfl
theorem w4_128 : (Cond.instanceMethod yX6_copyFrom) ∈ pm_T := pm_t4 (List.mem_of_getElem? (i := 128) rfl) rfl
theorem w4_129 : (Cond.selects "WriterPace$State" yX6_copyFrom yX6_copyFrom) ∈ pm_T := pm_t4 (List.mem_of_getElem? (i := 129) rfl) rfl
theorem w4_130 : (Cond.code yX6_copyFrom prog_8_method_3_code (2 : Nat) (Option.none : Option Jvm.ClassFile.FieldType)) ∈ pm_T := pm_t4 (List.mem_of_getElem? (i := 130) rfl) rfl
theorem w4_131 : (Cond.methodLink "WriterPace$State" (80 : Nat) yX1_copyFrom) ∈ pm_T := pm_t4 (List.mem_of_getElem? (i := 131) rfl) rfl
theorem w4_132 : (Cond.instanceMethod yX1_copyFrom) ∈ pm_T := pm_t4 (List.mem_of_getElem? (i := 132) rfl) rfl
theorem w4_133 : (Cond.selects "WriterPace$Drives" yX1_copyFrom yX1_copyFrom) ∈ pm_T := pm_t4 (List.mem_of_getElem? (i := 133) rfl) rfl
theorem w4_134 : (Cond.code yX1_copyFrom prog_3_method_3_code (2 : Nat) (Option.none : Option Jvm.ClassFile.FieldType)) ∈ pm_T := pm_t4 (List.mem_of_getElem? (i := 134) rfl) rfl
theorem w4_135 : (Cond.methodLink "WriterPace$Drives" (51 : Nat) arraycopyName) ∈ pm_T := pm_t4 (List.mem_of_getElem? (i := 135) rfl) rfl
theorem w4_136 : (Cond.methodLink "WriterPace" (236 : Nat) yX0_run) ∈ pm_T := pm_t4 (List.mem_of_getElem? (i := 136) rfl) rfl
theorem w4_137 : (Cond.instanceMethod yX0_run) ∈ pm_T := pm_t4 (List.mem_of_getElem? (i := 137) rfl) rfl
theorem w4_138 : (Cond.selects "WriterPace$Clock" yX0_run yX0_run) ∈ pm_T := pm_t4 (List.mem_of_getElem? (i := 138) rfl) rfl
theorem w4_139 : (Cond.code yX0_run prog_2_method_3_code (6 : Nat) (Option.none : Option Jvm.ClassFile.FieldType)) ∈ pm_T := pm_t4 (List.mem_of_getElem? (i := 139) rfl) rfl
theorem w4_140 : (Cond.methodLink "WriterPace$Clock" (42 : Nat) yX0_writeOut) ∈ pm_T := pm_t4 (List.mem_of_getElem? (i := 140) rfl) rfl
theorem w4_142 : (Cond.instanceMethod yX0_writeOut) ∈ pm_T := pm_t4 (List.mem_of_getElem? (i := 142) rfl) rfl
theorem w4_143 : (Cond.code yX0_writeOut prog_2_method_4_code (5 : Nat) (Option.none : Option Jvm.ClassFile.FieldType)) ∈ pm_T := pm_t4 (List.mem_of_getElem? (i := 143) rfl) rfl
theorem w4_144 : (Cond.methodLink "WriterPace$Clock" (75 : Nat) yX4_speedOf) ∈ pm_T := pm_t4 (List.mem_of_getElem? (i := 144) rfl) rfl
theorem w4_145 : (Cond.instanceMethod yX4_speedOf) ∈ pm_T := pm_t4 (List.mem_of_getElem? (i := 145) rfl) rfl
theorem w4_146 : (Cond.selects "WriterPace$Oracle" yX4_speedOf yX4_speedOf) ∈ pm_T := pm_t4 (List.mem_of_getElem? (i := 146) rfl) rfl
theorem w4_147 : (Cond.code yX4_speedOf prog_6_method_4_code (7 : Nat) (Option.some Jvm.ClassFile.FieldType.int)) ∈ pm_T := pm_t4 (List.mem_of_getElem? (i := 147) rfl) rfl
theorem w4_148 : (Cond.methodLink "WriterPace$Oracle" (54 : Nat) yX4_cellOf) ∈ pm_T := pm_t4 (List.mem_of_getElem? (i := 148) rfl) rfl
theorem w4_150 : (Cond.instanceMethod yX4_cellOf) ∈ pm_T := pm_t4 (List.mem_of_getElem? (i := 150) rfl) rfl
theorem w4_151 : (Cond.code yX4_cellOf prog_6_method_5_code (5 : Nat) (Option.some Jvm.ClassFile.FieldType.int)) ∈ pm_T := pm_t4 (List.mem_of_getElem? (i := 151) rfl) rfl
theorem w4_152 : (Cond.methodLink "WriterPace$Oracle" (61 : Nat) yX4_reckon) ∈ pm_T := pm_t4 (List.mem_of_getElem? (i := 152) rfl) rfl
theorem w4_154 : (Cond.instanceMethod yX4_reckon) ∈ pm_T := pm_t4 (List.mem_of_getElem? (i := 154) rfl) rfl
theorem w4_155 : (Cond.code yX4_reckon prog_6_method_6_code (11 : Nat) (Option.some Jvm.ClassFile.FieldType.int)) ∈ pm_T := pm_t4 (List.mem_of_getElem? (i := 155) rfl) rfl
theorem w4_156 : (Cond.methodLink "WriterPace$Oracle" (95 : Nat) yX4_join) ∈ pm_T := pm_t4 (List.mem_of_getElem? (i := 156) rfl) rfl
theorem w4_157 : (Cond.static yX4_join) ∈ pm_T := pm_t4 (List.mem_of_getElem? (i := 157) rfl) rfl
theorem w4_158 : (Cond.code yX4_join prog_6_method_7_code (5 : Nat) (Option.some Jvm.ClassFile.FieldType.long)) ∈ pm_T := pm_t4 (List.mem_of_getElem? (i := 158) rfl) rfl
theorem w4_159 : (Cond.methodLink "WriterPace$Oracle" (99 : Nat) yX4_kept) ∈ pm_T := pm_t4 (List.mem_of_getElem? (i := 159) rfl) rfl
theorem w4_160 : (Cond.static yX4_kept) ∈ pm_T := pm_t4 (List.mem_of_getElem? (i := 160) rfl) rfl
theorem w4_161 : (Cond.code yX4_kept prog_6_method_8_code (2 : Nat) (Option.some Jvm.ClassFile.FieldType.int)) ∈ pm_T := pm_t4 (List.mem_of_getElem? (i := 161) rfl) rfl
theorem w4_162 : (Cond.constantLong "WriterPace$Oracle" (103 : Nat) (-1000000 : Int64)) ∈ pm_T := pm_t4 (List.mem_of_getElem? (i := 162) rfl) rfl
theorem w4_163 : (Cond.constant "WriterPace$Oracle" (105 : Nat) (-1000000 : Int32)) ∈ pm_T := pm_t4 (List.mem_of_getElem? (i := 163) rfl) rfl
theorem w4_164 : (Cond.constantLong "WriterPace$Oracle" (106 : Nat) (1000000 : Int64)) ∈ pm_T := pm_t4 (List.mem_of_getElem? (i := 164) rfl) rfl
theorem w4_165 : (Cond.constant "WriterPace$Oracle" (108 : Nat) (1000000 : Int32)) ∈ pm_T := pm_t4 (List.mem_of_getElem? (i := 165) rfl) rfl
theorem w4_166 : (Cond.methodLink "WriterPace$Oracle" (65 : Nat) yJ9_min_7cf53) ∈ pm_T := pm_t4 (List.mem_of_getElem? (i := 166) rfl) rfl
theorem w4_167 : (Cond.methodLink "WriterPace$Oracle" (71 : Nat) yJ9_max_7cf53) ∈ pm_T := pm_t4 (List.mem_of_getElem? (i := 167) rfl) rfl
theorem w4_168 : (Cond.methodLink "WriterPace$Clock" (82 : Nat) yJ9_min_7cf53) ∈ pm_T := pm_t4 (List.mem_of_getElem? (i := 168) rfl) rfl
theorem w4_169 : (Cond.methodLink "WriterPace$Clock" (49 : Nat) yX0_closeWindow) ∈ pm_T := pm_t4 (List.mem_of_getElem? (i := 169) rfl) rfl
theorem w4_171 : (Cond.instanceMethod yX0_closeWindow) ∈ pm_T := pm_t4 (List.mem_of_getElem? (i := 171) rfl) rfl
theorem w4_172 : (Cond.code yX0_closeWindow prog_2_method_5_code (7 : Nat) (Option.none : Option Jvm.ClassFile.FieldType)) ∈ pm_T := pm_t4 (List.mem_of_getElem? (i := 172) rfl) rfl
theorem w4_173 : (Cond.constantDouble "WriterPace$Clock" (106 : Nat) (4620693217682128896 : UInt64)) ∈ pm_T := pm_t4 (List.mem_of_getElem? (i := 173) rfl) rfl
theorem w4_174 : (Cond.methodLink "WriterPace$Clock" (55 : Nat) yX0_fillQueue) ∈ pm_T := pm_t4 (List.mem_of_getElem? (i := 174) rfl) rfl
theorem w4_176 : (Cond.instanceMethod yX0_fillQueue) ∈ pm_T := pm_t4 (List.mem_of_getElem? (i := 176) rfl) rfl
theorem w4_177 : (Cond.code yX0_fillQueue prog_2_method_6_code (7 : Nat) (Option.none : Option Jvm.ClassFile.FieldType)) ∈ pm_T := pm_t4 (List.mem_of_getElem? (i := 177) rfl) rfl
theorem w4_178 : (Cond.methodLink "WriterPace$Clock" (111 : Nat) yX0_oldestFile) ∈ pm_T := pm_t4 (List.mem_of_getElem? (i := 178) rfl) rfl
theorem w4_179 : (Cond.methodLink "WriterPace$Clock" (114 : Nat) yX0_fileInTurn) ∈ pm_T := pm_t4 (List.mem_of_getElem? (i := 179) rfl) rfl
theorem w4_180 : (Cond.methodLink "WriterPace$Clock" (59 : Nat) yX0_serve) ∈ pm_T := pm_t4 (List.mem_of_getElem? (i := 180) rfl) rfl
theorem w4_182 : (Cond.instanceMethod yX0_serve) ∈ pm_T := pm_t4 (List.mem_of_getElem? (i := 182) rfl) rfl
theorem w4_183 : (Cond.code yX0_serve prog_2_method_10_code (6 : Nat) (Option.none : Option Jvm.ClassFile.FieldType)) ∈ pm_T := pm_t4 (List.mem_of_getElem? (i := 183) rfl) rfl
theorem w4_184 : (Cond.methodLink "WriterPace$Clock" (149 : Nat) yX4_wantedBy) ∈ pm_T := pm_t4 (List.mem_of_getElem? (i := 184) rfl) rfl
theorem w4_185 : (Cond.instanceMethod yX4_wantedBy) ∈ pm_T := pm_t4 (List.mem_of_getElem? (i := 185) rfl) rfl
theorem w4_186 : (Cond.selects "WriterPace$Oracle" yX4_wantedBy yX4_wantedBy) ∈ pm_T := pm_t4 (List.mem_of_getElem? (i := 186) rfl) rfl
theorem w4_187 : (Cond.code yX4_wantedBy prog_6_method_3_code (8 : Nat) (Option.some Jvm.ClassFile.FieldType.int)) ∈ pm_T := pm_t4 (List.mem_of_getElem? (i := 187) rfl) rfl
theorem w4_188 : (Cond.methodLink "WriterPace$Clock" (177 : Nat) yX0_pauseOf) ∈ pm_T := pm_t4 (List.mem_of_getElem? (i := 188) rfl) rfl
theorem w4_189 : (Cond.methodLink "WriterPace" (240 : Nat) yX8_remember) ∈ pm_T := pm_t4 (List.mem_of_getElem? (i := 189) rfl) rfl
theorem w4_191 : (Cond.instanceMethod yX8_remember) ∈ pm_T := pm_t4 (List.mem_of_getElem? (i := 191) rfl) rfl
theorem w4_192 : (Cond.code yX8_remember prog_1_method_46_code (1 : Nat) (Option.none : Option Jvm.ClassFile.FieldType)) ∈ pm_T := pm_t4 (List.mem_of_getElem? (i := 192) rfl) rfl
theorem w4_193 : (Cond.methodLink "WriterPace" (243 : Nat) yX6_writtenInAll) ∈ pm_T := pm_t4 (List.mem_of_getElem? (i := 193) rfl) rfl
theorem w4_194 : (Cond.instanceMethod yX6_writtenInAll) ∈ pm_T := pm_t4 (List.mem_of_getElem? (i := 194) rfl) rfl
theorem w4_195 : (Cond.selects "WriterPace$State" yX6_writtenInAll yX6_writtenInAll) ∈ pm_T := pm_t4 (List.mem_of_getElem? (i := 195) rfl) rfl
theorem w4_196 : (Cond.code yX6_writtenInAll prog_8_method_6_code (1 : Nat) (Option.some Jvm.ClassFile.FieldType.int)) ∈ pm_T := pm_t4 (List.mem_of_getElem? (i := 196) rfl) rfl
theorem w4_197 : (Cond.methodLink "WriterPace$State" (85 : Nat) yX6_sumOf) ∈ pm_T := pm_t4 (List.mem_of_getElem? (i := 197) rfl) rfl
theorem w4_198 : (Cond.static yX6_sumOf) ∈ pm_T := pm_t4 (List.mem_of_getElem? (i := 198) rfl) rfl
theorem w4_199 : (Cond.code yX6_sumOf prog_8_method_9_code (3 : Nat) (Option.some Jvm.ClassFile.FieldType.int)) ∈ pm_T := pm_t4 (List.mem_of_getElem? (i := 199) rfl) rfl
theorem w4_200 : (Cond.methodLink "WriterPaceLaw" (57 : Nat) yX8_speed) ∈ pm_T := pm_t4 (List.mem_of_getElem? (i := 200) rfl) rfl
theorem w4_201 : (Cond.instanceMethod yX8_speed) ∈ pm_T := pm_t4 (List.mem_of_getElem? (i := 201) rfl) rfl
theorem w4_202 : (Cond.selects "WriterPace" yX8_speed yX8_speed) ∈ pm_T := pm_t4 (List.mem_of_getElem? (i := 202) rfl) rfl
theorem w4_203 : (Cond.code yX8_speed prog_1_method_12_code (3 : Nat) (Option.some Jvm.ClassFile.FieldType.int)) ∈ pm_T := pm_t4 (List.mem_of_getElem? (i := 203) rfl) rfl
theorem w4_204 : (Cond.methodLink "WriterPace" (247 : Nat) yX8_canTellSpeed) ∈ pm_T := pm_t4 (List.mem_of_getElem? (i := 204) rfl) rfl
theorem w4_206 : (Cond.instanceMethod yX8_canTellSpeed) ∈ pm_T := pm_t4 (List.mem_of_getElem? (i := 206) rfl) rfl
theorem w4_207 : (Cond.code yX8_canTellSpeed prog_1_method_43_code (3 : Nat) (Option.some Jvm.ClassFile.FieldType.boolean)) ∈ pm_T := pm_t4 (List.mem_of_getElem? (i := 207) rfl) rfl
theorem w4_208 : (Cond.methodLink "WriterPaceLaw" (61 : Nat) yX8_wants) ∈ pm_T := pm_t4 (List.mem_of_getElem? (i := 208) rfl) rfl
theorem w4_209 : (Cond.instanceMethod yX8_wants) ∈ pm_T := pm_t4 (List.mem_of_getElem? (i := 209) rfl) rfl
theorem w4_210 : (Cond.selects "WriterPace" yX8_wants yX8_wants) ∈ pm_T := pm_t4 (List.mem_of_getElem? (i := 210) rfl) rfl
theorem w4_211 : (Cond.code yX8_wants prog_1_method_13_code (3 : Nat) (Option.some Jvm.ClassFile.FieldType.int)) ∈ pm_T := pm_t4 (List.mem_of_getElem? (i := 211) rfl) rfl
theorem w4_212 : (Cond.methodLink "WriterPace" (251 : Nat) yX8_canTellWants) ∈ pm_T := pm_t4 (List.mem_of_getElem? (i := 212) rfl) rfl
theorem w4_214 : (Cond.instanceMethod yX8_canTellWants) ∈ pm_T := pm_t4 (List.mem_of_getElem? (i := 214) rfl) rfl
theorem w4_215 : (Cond.code yX8_canTellWants prog_1_method_44_code (3 : Nat) (Option.some Jvm.ClassFile.FieldType.boolean)) ∈ pm_T := pm_t4 (List.mem_of_getElem? (i := 215) rfl) rfl
theorem w4_216 : (Cond.methodLink "WriterPaceLaw" (65 : Nat) yX8_undo) ∈ pm_T := pm_t4 (List.mem_of_getElem? (i := 216) rfl) rfl
theorem w4_217 : (Cond.instanceMethod yX8_undo) ∈ pm_T := pm_t4 (List.mem_of_getElem? (i := 217) rfl) rfl
theorem w4_218 : (Cond.selects "WriterPace" yX8_undo yX8_undo) ∈ pm_T := pm_t4 (List.mem_of_getElem? (i := 218) rfl) rfl
theorem w4_219 : (Cond.code yX8_undo prog_1_method_14_code (2 : Nat) (Option.some Jvm.ClassFile.FieldType.int)) ∈ pm_T := pm_t4 (List.mem_of_getElem? (i := 219) rfl) rfl
theorem w4_220 : (Cond.methodLink "WriterPaceLaw" (69 : Nat) yX8_judge) ∈ pm_T := pm_t4 (List.mem_of_getElem? (i := 220) rfl) rfl
theorem w4_221 : (Cond.instanceMethod yX8_judge) ∈ pm_T := pm_t4 (List.mem_of_getElem? (i := 221) rfl) rfl
theorem w4_222 : (Cond.selects "WriterPace" yX8_judge yX8_judge) ∈ pm_T := pm_t4 (List.mem_of_getElem? (i := 222) rfl) rfl
theorem w4_223 : (Cond.code yX8_judge prog_1_method_15_code (5 : Nat) (Option.some Jvm.ClassFile.FieldType.int)) ∈ pm_T := pm_t4 (List.mem_of_getElem? (i := 223) rfl) rfl
theorem w4_224 : (Cond.methodLink "WriterPace" (254 : Nat) yX8_isTray) ∈ pm_T := pm_t4 (List.mem_of_getElem? (i := 224) rfl) rfl
theorem w4_225 : (Cond.static yX8_isTray) ∈ pm_T := pm_t4 (List.mem_of_getElem? (i := 225) rfl) rfl
theorem w4_226 : (Cond.code yX8_isTray prog_1_method_40_code (1 : Nat) (Option.some Jvm.ClassFile.FieldType.boolean)) ∈ pm_T := pm_t4 (List.mem_of_getElem? (i := 226) rfl) rfl
theorem w4_227 : (Cond.methodLink "WriterPace" (261 : Nat) yX8_doAll) ∈ pm_T := pm_t4 (List.mem_of_getElem? (i := 227) rfl) rfl
theorem w4_229 : (Cond.instanceMethod yX8_doAll) ∈ pm_T := pm_t4 (List.mem_of_getElem? (i := 229) rfl) rfl
theorem w4_230 : (Cond.code yX8_doAll prog_1_method_47_code (4 : Nat) (Option.some Jvm.ClassFile.FieldType.int)) ∈ pm_T := pm_t4 (List.mem_of_getElem? (i := 230) rfl) rfl
theorem w4_231 : (Cond.methodLink "WriterPace" (277 : Nat) yX8_doDeed) ∈ pm_T := pm_t4 (List.mem_of_getElem? (i := 231) rfl) rfl
theorem w4_233 : (Cond.instanceMethod yX8_doDeed) ∈ pm_T := pm_t4 (List.mem_of_getElem? (i := 233) rfl) rfl
theorem w4_234 : (Cond.code yX8_doDeed prog_1_method_48_code (5 : Nat) (Option.some Jvm.ClassFile.FieldType.boolean)) ∈ pm_T := pm_t4 (List.mem_of_getElem? (i := 234) rfl) rfl
theorem w4_235 : (Cond.constantLong "WriterPace" (358 : Nat) (99 : Int64)) ∈ pm_T := pm_t4 (List.mem_of_getElem? (i := 235) rfl) rfl
theorem w4_236 : (Cond.constantLong "WriterPace" (360 : Nat) (10000 : Int64)) ∈ pm_T := pm_t4 (List.mem_of_getElem? (i := 236) rfl) rfl
theorem w4_237 : (Cond.constantLong "WriterPace" (362 : Nat) (13999 : Int64)) ∈ pm_T := pm_t4 (List.mem_of_getElem? (i := 237) rfl) rfl
theorem w4_238 : (Cond.constantLong "WriterPace" (364 : Nat) (20000 : Int64)) ∈ pm_T := pm_t4 (List.mem_of_getElem? (i := 238) rfl) rfl
theorem w4_239 : (Cond.constantLong "WriterPace" (366 : Nat) (20599 : Int64)) ∈ pm_T := pm_t4 (List.mem_of_getElem? (i := 239) rfl) rfl
theorem w5_0 : (Cond.methodLink "WriterPaceLaw" (73 : Nat) yX8_perform) ∈ pm_T := pm_t5 (List.mem_of_getElem? (i := 0) rfl) rfl
theorem w5_1 : (Cond.instanceMethod yX8_perform) ∈ pm_T := pm_t5 (List.mem_of_getElem? (i := 1) rfl) rfl
theorem w5_2 : (Cond.selects "WriterPace" yX8_perform yX8_perform) ∈ pm_T := pm_t5 (List.mem_of_getElem? (i := 2) rfl) rfl
theorem w5_3 : (Cond.code yX8_perform prog_1_method_16_code (3 : Nat) (Option.some Jvm.ClassFile.FieldType.int)) ∈ pm_T := pm_t5 (List.mem_of_getElem? (i := 3) rfl) rfl
theorem w5_4 : (Cond.methodLink "WriterPaceLaw" (77 : Nat) yX8_load) ∈ pm_T := pm_t5 (List.mem_of_getElem? (i := 4) rfl) rfl
theorem w5_5 : (Cond.instanceMethod yX8_load) ∈ pm_T := pm_t5 (List.mem_of_getElem? (i := 5) rfl) rfl
theorem w5_6 : (Cond.selects "WriterPace" yX8_load yX8_load) ∈ pm_T := pm_t5 (List.mem_of_getElem? (i := 6) rfl) rfl
theorem w5_7 : (Cond.code yX8_load prog_1_method_17_code (5 : Nat) (Option.some Jvm.ClassFile.FieldType.int)) ∈ pm_T := pm_t5 (List.mem_of_getElem? (i := 7) rfl) rfl
theorem w5_8 : (Cond.methodLink "WriterPace" (274 : Nat) yX8_drawDeed) ∈ pm_T := pm_t5 (List.mem_of_getElem? (i := 8) rfl) rfl
theorem w5_10 : (Cond.instanceMethod yX8_drawDeed) ∈ pm_T := pm_t5 (List.mem_of_getElem? (i := 10) rfl) rfl
theorem w5_11 : (Cond.code yX8_drawDeed prog_1_method_50_code (3 : Nat) (Option.some Jvm.ClassFile.FieldType.int)) ∈ pm_T := pm_t5 (List.mem_of_getElem? (i := 11) rfl) rfl
theorem w5_12 : (Cond.methodLink "WriterPace" (369 : Nat) yX8_draw) ∈ pm_T := pm_t5 (List.mem_of_getElem? (i := 12) rfl) rfl
theorem w5_14 : (Cond.instanceMethod yX8_draw) ∈ pm_T := pm_t5 (List.mem_of_getElem? (i := 14) rfl) rfl
theorem w5_15 : (Cond.code yX8_draw prog_1_method_49_code (1 : Nat) (Option.some Jvm.ClassFile.FieldType.int)) ∈ pm_T := pm_t5 (List.mem_of_getElem? (i := 15) rfl) rfl
theorem w5_16 : (Cond.constant "WriterPace" (368 : Nat) (1103515245 : Int32)) ∈ pm_T := pm_t5 (List.mem_of_getElem? (i := 16) rfl) rfl
theorem w5_17 : (Cond.methodLink "WriterPaceLaw" (81 : Nat) yX8_later) ∈ pm_T := pm_t5 (List.mem_of_getElem? (i := 17) rfl) rfl
theorem w5_18 : (Cond.instanceMethod yX8_later) ∈ pm_T := pm_t5 (List.mem_of_getElem? (i := 18) rfl) rfl
theorem w5_19 : (Cond.selects "WriterPace" yX8_later yX8_later) ∈ pm_T := pm_t5 (List.mem_of_getElem? (i := 19) rfl) rfl
theorem w5_20 : (Cond.code yX8_later prog_1_method_18_code (3 : Nat) (Option.some Jvm.ClassFile.FieldType.int)) ∈ pm_T := pm_t5 (List.mem_of_getElem? (i := 20) rfl) rfl
theorem w5_21 : (Cond.methodLink "WriterPace" (281 : Nat) yX8_goOn) ∈ pm_T := pm_t5 (List.mem_of_getElem? (i := 21) rfl) rfl
theorem w5_23 : (Cond.instanceMethod yX8_goOn) ∈ pm_T := pm_t5 (List.mem_of_getElem? (i := 23) rfl) rfl
theorem w5_24 : (Cond.code yX8_goOn prog_1_method_51_code (2 : Nat) (Option.none : Option Jvm.ClassFile.FieldType)) ∈ pm_T := pm_t5 (List.mem_of_getElem? (i := 24) rfl) rfl
theorem w5_25 : (Cond.methodLink "WriterPace" (284 : Nat) yX6_dirtyInAll) ∈ pm_T := pm_t5 (List.mem_of_getElem? (i := 25) rfl) rfl
theorem w5_26 : (Cond.instanceMethod yX6_dirtyInAll) ∈ pm_T := pm_t5 (List.mem_of_getElem? (i := 26) rfl) rfl
theorem w5_27 : (Cond.selects "WriterPace$State" yX6_dirtyInAll yX6_dirtyInAll) ∈ pm_T := pm_t5 (List.mem_of_getElem? (i := 27) rfl) rfl
theorem w5_28 : (Cond.code yX6_dirtyInAll prog_8_method_5_code (1 : Nat) (Option.some Jvm.ClassFile.FieldType.int)) ∈ pm_T := pm_t5 (List.mem_of_getElem? (i := 28) rfl) rfl
theorem w5_29 : (Cond.methodLink "WriterPace" (287 : Nat) yX6_madeInAll) ∈ pm_T := pm_t5 (List.mem_of_getElem? (i := 29) rfl) rfl
theorem w5_30 : (Cond.instanceMethod yX6_madeInAll) ∈ pm_T := pm_t5 (List.mem_of_getElem? (i := 30) rfl) rfl
theorem w5_31 : (Cond.selects "WriterPace$State" yX6_madeInAll yX6_madeInAll) ∈ pm_T := pm_t5 (List.mem_of_getElem? (i := 31) rfl) rfl
theorem w5_32 : (Cond.code yX6_madeInAll prog_8_method_7_code (1 : Nat) (Option.some Jvm.ClassFile.FieldType.int)) ∈ pm_T := pm_t5 (List.mem_of_getElem? (i := 32) rfl) rfl
theorem w5_33 : (Cond.methodLink "WriterPaceLaw" (85 : Nat) yX8_passes) ∈ pm_T := pm_t5 (List.mem_of_getElem? (i := 33) rfl) rfl
theorem w5_34 : (Cond.instanceMethod yX8_passes) ∈ pm_T := pm_t5 (List.mem_of_getElem? (i := 34) rfl) rfl
theorem w5_35 : (Cond.selects "WriterPace" yX8_passes yX8_passes) ∈ pm_T := pm_t5 (List.mem_of_getElem? (i := 35) rfl) rfl
theorem w5_36 : (Cond.code yX8_passes prog_1_method_19_code (3 : Nat) (Option.some Jvm.ClassFile.FieldType.int)) ∈ pm_T := pm_t5 (List.mem_of_getElem? (i := 36) rfl) rfl
theorem w5_37 : (Cond.methodLink "WriterPaceLaw" (89 : Nat) yX8_oldest) ∈ pm_T := pm_t5 (List.mem_of_getElem? (i := 37) rfl) rfl
theorem w5_38 : (Cond.instanceMethod yX8_oldest) ∈ pm_T := pm_t5 (List.mem_of_getElem? (i := 38) rfl) rfl
theorem w5_39 : (Cond.selects "WriterPace" yX8_oldest yX8_oldest) ∈ pm_T := pm_t5 (List.mem_of_getElem? (i := 39) rfl) rfl
theorem w5_40 : (Cond.code yX8_oldest prog_1_method_20_code (5 : Nat) (Option.some Jvm.ClassFile.FieldType.int)) ∈ pm_T := pm_t5 (List.mem_of_getElem? (i := 40) rfl) rfl
theorem w5_41 : (Cond.methodLink "WriterPace" (290 : Nat) yJ9_max_7cf53) ∈ pm_T := pm_t5 (List.mem_of_getElem? (i := 41) rfl) rfl
theorem w5_42 : (Cond.methodLink "WriterPaceLaw" (93 : Nat) yX8_drains) ∈ pm_T := pm_t5 (List.mem_of_getElem? (i := 42) rfl) rfl
theorem w5_43 : (Cond.instanceMethod yX8_drains) ∈ pm_T := pm_t5 (List.mem_of_getElem? (i := 43) rfl) rfl
theorem w5_44 : (Cond.selects "WriterPace" yX8_drains yX8_drains) ∈ pm_T := pm_t5 (List.mem_of_getElem? (i := 44) rfl) rfl
theorem w5_45 : (Cond.code yX8_drains prog_1_method_21_code (2 : Nat) (Option.some Jvm.ClassFile.FieldType.int)) ∈ pm_T := pm_t5 (List.mem_of_getElem? (i := 45) rfl) rfl
theorem w5_46 : (Cond.methodLink "WriterPaceLaw" (98 : Nat) yX8_written) ∈ pm_T := pm_t5 (List.mem_of_getElem? (i := 46) rfl) rfl
theorem w5_47 : (Cond.instanceMethod yX8_written) ∈ pm_T := pm_t5 (List.mem_of_getElem? (i := 47) rfl) rfl
theorem w5_48 : (Cond.selects "WriterPace" yX8_written yX8_written) ∈ pm_T := pm_t5 (List.mem_of_getElem? (i := 48) rfl) rfl
theorem w5_49 : (Cond.code yX8_written prog_1_method_22_code (5 : Nat) (Option.some Jvm.ClassFile.FieldType.int)) ∈ pm_T := pm_t5 (List.mem_of_getElem? (i := 49) rfl) rfl
theorem w5_50 : (Cond.methodLink "WriterPaceLaw" (102 : Nat) yX8_starved) ∈ pm_T := pm_t5 (List.mem_of_getElem? (i := 50) rfl) rfl
theorem w5_51 : (Cond.instanceMethod yX8_starved) ∈ pm_T := pm_t5 (List.mem_of_getElem? (i := 51) rfl) rfl
theorem w5_52 : (Cond.selects "WriterPace" yX8_starved yX8_starved) ∈ pm_T := pm_t5 (List.mem_of_getElem? (i := 52) rfl) rfl
theorem w5_53 : (Cond.code yX8_starved prog_1_method_23_code (5 : Nat) (Option.some Jvm.ClassFile.FieldType.int)) ∈ pm_T := pm_t5 (List.mem_of_getElem? (i := 53) rfl) rfl
theorem w5_54 : (Cond.methodLink "WriterPaceLaw" (106 : Nat) yX8_fair) ∈ pm_T := pm_t5 (List.mem_of_getElem? (i := 54) rfl) rfl
theorem w5_55 : (Cond.instanceMethod yX8_fair) ∈ pm_T := pm_t5 (List.mem_of_getElem? (i := 55) rfl) rfl
theorem w5_56 : (Cond.selects "WriterPace" yX8_fair yX8_fair) ∈ pm_T := pm_t5 (List.mem_of_getElem? (i := 56) rfl) rfl
theorem w5_57 : (Cond.code yX8_fair prog_1_method_24_code (10 : Nat) (Option.some Jvm.ClassFile.FieldType.long)) ∈ pm_T := pm_t5 (List.mem_of_getElem? (i := 57) rfl) rfl
theorem w5_58 : (Cond.constantLong "WriterPace" (299 : Nat) (-3 : Int64)) ∈ pm_T := pm_t5 (List.mem_of_getElem? (i := 58) rfl) rfl
theorem w5_59 : (Cond.constantLong "WriterPace" (304 : Nat) (-1 : Int64)) ∈ pm_T := pm_t5 (List.mem_of_getElem? (i := 59) rfl) rfl
theorem w5_60 : (Cond.methodLink "WriterPace" (306 : Nat) yX8_inLowestTerms) ∈ pm_T := pm_t5 (List.mem_of_getElem? (i := 60) rfl) rfl
theorem w5_61 : (Cond.static yX8_inLowestTerms) ∈ pm_T := pm_t5 (List.mem_of_getElem? (i := 61) rfl) rfl
theorem w5_62 : (Cond.code yX8_inLowestTerms prog_1_method_58_code (12 : Nat) (Option.some Jvm.ClassFile.FieldType.long)) ∈ pm_T := pm_t5 (List.mem_of_getElem? (i := 62) rfl) rfl
theorem w5_63 : (Cond.methodLink "WriterPaceLaw" (110 : Nat) yX8_most) ∈ pm_T := pm_t5 (List.mem_of_getElem? (i := 63) rfl) rfl
theorem w5_64 : (Cond.instanceMethod yX8_most) ∈ pm_T := pm_t5 (List.mem_of_getElem? (i := 64) rfl) rfl
theorem w5_65 : (Cond.selects "WriterPace" yX8_most yX8_most) ∈ pm_T := pm_t5 (List.mem_of_getElem? (i := 65) rfl) rfl
theorem w5_66 : (Cond.code yX8_most prog_1_method_25_code (8 : Nat) (Option.some Jvm.ClassFile.FieldType.int)) ∈ pm_T := pm_t5 (List.mem_of_getElem? (i := 66) rfl) rfl
theorem w5_67 : (Cond.methodLink "WriterPace" (310 : Nat) yJ9_min_7cf53) ∈ pm_T := pm_t5 (List.mem_of_getElem? (i := 67) rfl) rfl
theorem w5_68 : (Cond.methodLink "WriterPaceLaw" (114 : Nat) yX8_held) ∈ pm_T := pm_t5 (List.mem_of_getElem? (i := 68) rfl) rfl
theorem w5_69 : (Cond.instanceMethod yX8_held) ∈ pm_T := pm_t5 (List.mem_of_getElem? (i := 69) rfl) rfl
theorem w5_70 : (Cond.selects "WriterPace" yX8_held yX8_held) ∈ pm_T := pm_t5 (List.mem_of_getElem? (i := 70) rfl) rfl
theorem w5_71 : (Cond.code yX8_held prog_1_method_26_code (2 : Nat) (Option.some Jvm.ClassFile.FieldType.int)) ∈ pm_T := pm_t5 (List.mem_of_getElem? (i := 71) rfl) rfl
theorem w5_72 : (Cond.methodLink "WriterPace" (313 : Nat) yX6_heldInAll) ∈ pm_T := pm_t5 (List.mem_of_getElem? (i := 72) rfl) rfl
theorem w5_73 : (Cond.instanceMethod yX6_heldInAll) ∈ pm_T := pm_t5 (List.mem_of_getElem? (i := 73) rfl) rfl
theorem w5_74 : (Cond.selects "WriterPace$State" yX6_heldInAll yX6_heldInAll) ∈ pm_T := pm_t5 (List.mem_of_getElem? (i := 74) rfl) rfl
theorem w5_75 : (Cond.code yX6_heldInAll prog_8_method_8_code (1 : Nat) (Option.some Jvm.ClassFile.FieldType.int)) ∈ pm_T := pm_t5 (List.mem_of_getElem? (i := 75) rfl) rfl
theorem w5_76 : (Cond.methodLink "WriterPaceLaw" (118 : Nat) yX8_enough) ∈ pm_T := pm_t5 (List.mem_of_getElem? (i := 76) rfl) rfl
theorem w5_77 : (Cond.instanceMethod yX8_enough) ∈ pm_T := pm_t5 (List.mem_of_getElem? (i := 77) rfl) rfl
theorem w5_78 : (Cond.selects "WriterPace" yX8_enough yX8_enough) ∈ pm_T := pm_t5 (List.mem_of_getElem? (i := 78) rfl) rfl
theorem w5_79 : (Cond.code yX8_enough prog_1_method_27_code (3 : Nat) (Option.some Jvm.ClassFile.FieldType.int)) ∈ pm_T := pm_t5 (List.mem_of_getElem? (i := 79) rfl) rfl
theorem w5_80 : (Cond.methodLink "WriterPace" (317 : Nat) yX8_nobodyIsHeld) ∈ pm_T := pm_t5 (List.mem_of_getElem? (i := 80) rfl) rfl
theorem w5_82 : (Cond.instanceMethod yX8_nobodyIsHeld) ∈ pm_T := pm_t5 (List.mem_of_getElem? (i := 82) rfl) rfl
theorem w5_83 : (Cond.code yX8_nobodyIsHeld prog_1_method_52_code (4 : Nat) (Option.some Jvm.ClassFile.FieldType.boolean)) ∈ pm_T := pm_t5 (List.mem_of_getElem? (i := 83) rfl) rfl
theorem w5_84 : (Cond.methodLink "WriterPaceLaw" (122 : Nat) yX8_bears) ∈ pm_T := pm_t5 (List.mem_of_getElem? (i := 84) rfl) rfl
theorem w5_85 : (Cond.instanceMethod yX8_bears) ∈ pm_T := pm_t5 (List.mem_of_getElem? (i := 85) rfl) rfl
theorem w5_86 : (Cond.selects "WriterPace" yX8_bears yX8_bears) ∈ pm_T := pm_t5 (List.mem_of_getElem? (i := 86) rfl) rfl
theorem w5_87 : (Cond.code yX8_bears prog_1_method_28_code (4 : Nat) (Option.some Jvm.ClassFile.FieldType.int)) ∈ pm_T := pm_t5 (List.mem_of_getElem? (i := 87) rfl) rfl
theorem w5_88 : (Cond.methodLink "WriterPace" (320 : Nat) yX8_isNeverHeld) ∈ pm_T := pm_t5 (List.mem_of_getElem? (i := 88) rfl) rfl
theorem w5_90 : (Cond.instanceMethod yX8_isNeverHeld) ∈ pm_T := pm_t5 (List.mem_of_getElem? (i := 90) rfl) rfl
theorem w5_91 : (Cond.code yX8_isNeverHeld prog_1_method_53_code (4 : Nat) (Option.some Jvm.ClassFile.FieldType.boolean)) ∈ pm_T := pm_t5 (List.mem_of_getElem? (i := 91) rfl) rfl
theorem w5_92 : (Cond.methodLink "WriterPaceLaw" (126 : Nat) yX8_speeds) ∈ pm_T := pm_t5 (List.mem_of_getElem? (i := 92) rfl) rfl
theorem w5_93 : (Cond.instanceMethod yX8_speeds) ∈ pm_T := pm_t5 (List.mem_of_getElem? (i := 93) rfl) rfl
theorem w5_94 : (Cond.selects "WriterPace" yX8_speeds yX8_speeds) ∈ pm_T := pm_t5 (List.mem_of_getElem? (i := 94) rfl) rfl
theorem w5_95 : (Cond.code yX8_speeds prog_1_method_29_code (9 : Nat) (Option.some Jvm.ClassFile.FieldType.int)) ∈ pm_T := pm_t5 (List.mem_of_getElem? (i := 95) rfl) rfl
theorem w5_96 : (Cond.methodLink "WriterPace" (323 : Nat) yX7_hasBelowZero) ∈ pm_T := pm_t5 (List.mem_of_getElem? (i := 96) rfl) rfl
theorem w5_97 : (Cond.instanceMethod yX7_hasBelowZero) ∈ pm_T := pm_t5 (List.mem_of_getElem? (i := 97) rfl) rfl
theorem w5_98 : (Cond.selects "WriterPace$Tray" yX7_hasBelowZero yX7_hasBelowZero) ∈ pm_T := pm_t5 (List.mem_of_getElem? (i := 98) rfl) rfl
theorem w5_99 : (Cond.code yX7_hasBelowZero prog_9_method_4_code (2 : Nat) (Option.some Jvm.ClassFile.FieldType.boolean)) ∈ pm_T := pm_t5 (List.mem_of_getElem? (i := 99) rfl) rfl
theorem w5_100 : (Cond.methodLink "WriterPace" (327 : Nat) yX8_fits) ∈ pm_T := pm_t5 (List.mem_of_getElem? (i := 100) rfl) rfl
theorem w5_102 : (Cond.instanceMethod yX8_fits) ∈ pm_T := pm_t5 (List.mem_of_getElem? (i := 102) rfl) rfl
theorem w5_103 : (Cond.code yX8_fits prog_1_method_55_code (5 : Nat) (Option.some Jvm.ClassFile.FieldType.boolean)) ∈ pm_T := pm_t5 (List.mem_of_getElem? (i := 103) rfl) rfl
theorem w5_104 : (Cond.methodLink "WriterPace" (331 : Nat) yX8_wroteInSpan) ∈ pm_T := pm_t5 (List.mem_of_getElem? (i := 104) rfl) rfl
theorem w5_106 : (Cond.instanceMethod yX8_wroteInSpan) ∈ pm_T := pm_t5 (List.mem_of_getElem? (i := 106) rfl) rfl
theorem w5_107 : (Cond.code yX8_wroteInSpan prog_1_method_54_code (3 : Nat) (Option.some Jvm.ClassFile.FieldType.int)) ∈ pm_T := pm_t5 (List.mem_of_getElem? (i := 107) rfl) rfl
theorem w5_108 : (Cond.methodLink "WriterPaceLaw" (131 : Nat) yX8_busiest) ∈ pm_T := pm_t5 (List.mem_of_getElem? (i := 108) rfl) rfl
theorem w5_109 : (Cond.instanceMethod yX8_busiest) ∈ pm_T := pm_t5 (List.mem_of_getElem? (i := 109) rfl) rfl
theorem w5_110 : (Cond.selects "WriterPace" yX8_busiest yX8_busiest) ∈ pm_T := pm_t5 (List.mem_of_getElem? (i := 110) rfl) rfl
theorem w5_111 : (Cond.code yX8_busiest prog_1_method_30_code (6 : Nat) (Option.some Jvm.ClassFile.FieldType.int)) ∈ pm_T := pm_t5 (List.mem_of_getElem? (i := 111) rfl) rfl
theorem w5_112 : (Cond.methodLink "WriterPaceLaw" (135 : Nat) yX8_chance) ∈ pm_T := pm_t5 (List.mem_of_getElem? (i := 112) rfl) rfl
theorem w5_113 : (Cond.instanceMethod yX8_chance) ∈ pm_T := pm_t5 (List.mem_of_getElem? (i := 113) rfl) rfl
theorem w5_114 : (Cond.selects "WriterPace" yX8_chance yX8_chance) ∈ pm_T := pm_t5 (List.mem_of_getElem? (i := 114) rfl) rfl
theorem w5_115 : (Cond.code yX8_chance prog_1_method_31_code (8 : Nat) (Option.some Jvm.ClassFile.FieldType.int)) ∈ pm_T := pm_t5 (List.mem_of_getElem? (i := 115) rfl) rfl
theorem w5_116 : (Cond.methodLink "WriterPace" (337 : Nat) yX8_power) ∈ pm_T := pm_t5 (List.mem_of_getElem? (i := 116) rfl) rfl
theorem w5_117 : (Cond.static yX8_power) ∈ pm_T := pm_t5 (List.mem_of_getElem? (i := 117) rfl) rfl
theorem w5_118 : (Cond.code yX8_power prog_1_method_57_code (4 : Nat) (Option.some Jvm.ClassFile.FieldType.int)) ∈ pm_T := pm_t5 (List.mem_of_getElem? (i := 118) rfl) rfl
theorem w5_119 : (Cond.methodLink "WriterPace" (340 : Nat) yX8_goStalled) ∈ pm_T := pm_t5 (List.mem_of_getElem? (i := 119) rfl) rfl
theorem w5_121 : (Cond.instanceMethod yX8_goStalled) ∈ pm_T := pm_t5 (List.mem_of_getElem? (i := 121) rfl) rfl
theorem w5_122 : (Cond.code yX8_goStalled prog_1_method_56_code (8 : Nat) (Option.some Jvm.ClassFile.FieldType.int)) ∈ pm_T := pm_t5 (List.mem_of_getElem? (i := 122) rfl) rfl
theorem w5_123 : (Cond.methodLink "WriterPaceLaw" (139 : Nat) yX8_mean) ∈ pm_T := pm_t5 (List.mem_of_getElem? (i := 123) rfl) rfl
theorem w5_124 : (Cond.instanceMethod yX8_mean) ∈ pm_T := pm_t5 (List.mem_of_getElem? (i := 124) rfl) rfl
theorem w5_125 : (Cond.selects "WriterPace" yX8_mean yX8_mean) ∈ pm_T := pm_t5 (List.mem_of_getElem? (i := 125) rfl) rfl
theorem w5_126 : (Cond.code yX8_mean prog_1_method_32_code (7 : Nat) (Option.some Jvm.ClassFile.FieldType.int)) ∈ pm_T := pm_t5 (List.mem_of_getElem? (i := 126) rfl) rfl
theorem w5_127 : (Cond.methodLink "WriterPaceLaw" (143 : Nat) yX8_numbers) ∈ pm_T := pm_t5 (List.mem_of_getElem? (i := 127) rfl) rfl
theorem w5_128 : (Cond.instanceMethod yX8_numbers) ∈ pm_T := pm_t5 (List.mem_of_getElem? (i := 128) rfl) rfl
theorem w5_129 : (Cond.selects "WriterPace" yX8_numbers yX8_numbers) ∈ pm_T := pm_t5 (List.mem_of_getElem? (i := 129) rfl) rfl
theorem w5_130 : (Cond.code yX8_numbers prog_1_method_33_code (4 : Nat) (Option.some Jvm.ClassFile.FieldType.int)) ∈ pm_T := pm_t5 (List.mem_of_getElem? (i := 130) rfl) rfl
theorem w5_131 : (Cond.methodLink "WriterPace" (343 : Nat) yX7_begin) ∈ pm_T := pm_t5 (List.mem_of_getElem? (i := 131) rfl) rfl
theorem w5_132 : (Cond.instanceMethod yX7_begin) ∈ pm_T := pm_t5 (List.mem_of_getElem? (i := 132) rfl) rfl
theorem w5_133 : (Cond.selects "WriterPace$Tray" yX7_begin yX7_begin) ∈ pm_T := pm_t5 (List.mem_of_getElem? (i := 133) rfl) rfl
theorem w5_134 : (Cond.code yX7_begin prog_9_method_2_code (3 : Nat) (Option.none : Option Jvm.ClassFile.FieldType)) ∈ pm_T := pm_t5 (List.mem_of_getElem? (i := 134) rfl) rfl
theorem w5_135 : (Cond.methodLink "WriterPace$Tray" (26 : Nat) yJ7_fill_d0a16) ∈ pm_T := pm_t5 (List.mem_of_getElem? (i := 135) rfl) rfl
theorem w5_136 : (Cond.static yJ7_fill_d0a16) ∈ pm_T := pm_t5 (List.mem_of_getElem? (i := 136) rfl) rfl
theorem w5_137 : (Cond.code yJ7_fill_d0a16 prog_18_method_101_code (5 : Nat) (Option.none : Option Jvm.ClassFile.FieldType)) ∈ pm_T := pm_t5 (List.mem_of_getElem? (i := 137) rfl) rfl
theorem w5_138 : (Cond.methodLink "WriterPaceLaw" (149 : Nat) yX8_write) ∈ pm_T := pm_t5 (List.mem_of_getElem? (i := 138) rfl) rfl
theorem w5_139 : (Cond.instanceMethod yX8_write) ∈ pm_T := pm_t5 (List.mem_of_getElem? (i := 139) rfl) rfl
theorem w5_140 : (Cond.selects "WriterPace" yX8_write yX8_write) ∈ pm_T := pm_t5 (List.mem_of_getElem? (i := 140) rfl) rfl
theorem w5_141 : (Cond.code yX8_write prog_1_method_34_code (5 : Nat) (Option.some Jvm.ClassFile.FieldType.long)) ∈ pm_T := pm_t5 (List.mem_of_getElem? (i := 141) rfl) rfl
theorem w5_142 : (Cond.constantLong "WriterPace" (346 : Nat) (-6 : Int64)) ∈ pm_T := pm_t5 (List.mem_of_getElem? (i := 142) rfl) rfl
theorem w5_143 : (Cond.constantLong "WriterPace" (348 : Nat) (-7 : Int64)) ∈ pm_T := pm_t5 (List.mem_of_getElem? (i := 143) rfl) rfl
theorem w5_144 : (Cond.methodLink "WriterPace" (350 : Nat) yX7_put) ∈ pm_T := pm_t5 (List.mem_of_getElem? (i := 144) rfl) rfl
theorem w5_145 : (Cond.instanceMethod yX7_put) ∈ pm_T := pm_t5 (List.mem_of_getElem? (i := 145) rfl) rfl
theorem w5_146 : (Cond.selects "WriterPace$Tray" yX7_put yX7_put) ∈ pm_T := pm_t5 (List.mem_of_getElem? (i := 146) rfl) rfl
theorem w5_147 : (Cond.code yX7_put prog_9_method_3_code (4 : Nat) (Option.none : Option Jvm.ClassFile.FieldType)) ∈ pm_T := pm_t5 (List.mem_of_getElem? (i := 147) rfl) rfl
theorem w5_148 : (Cond.methodLink "WriterPaceLaw" (154 : Nat) yX8_lists) ∈ pm_T := pm_t5 (List.mem_of_getElem? (i := 148) rfl) rfl
theorem w5_149 : (Cond.instanceMethod yX8_lists) ∈ pm_T := pm_t5 (List.mem_of_getElem? (i := 149) rfl) rfl
theorem w5_150 : (Cond.selects "WriterPace" yX8_lists yX8_lists) ∈ pm_T := pm_t5 (List.mem_of_getElem? (i := 150) rfl) rfl
theorem w5_151 : (Cond.code yX8_lists prog_1_method_35_code (5 : Nat) (Option.some Jvm.ClassFile.FieldType.int)) ∈ pm_T := pm_t5 (List.mem_of_getElem? (i := 151) rfl) rfl
theorem w5_152 : (Cond.methodLink "WriterPaceLaw" (158 : Nat) yX8_image) ∈ pm_T := pm_t5 (List.mem_of_getElem? (i := 152) rfl) rfl
theorem w5_153 : (Cond.instanceMethod yX8_image) ∈ pm_T := pm_t5 (List.mem_of_getElem? (i := 153) rfl) rfl
theorem w5_154 : (Cond.selects "WriterPace" yX8_image yX8_image) ∈ pm_T := pm_t5 (List.mem_of_getElem? (i := 154) rfl) rfl
theorem w5_155 : (Cond.code yX8_image prog_1_method_36_code (2 : Nat) (Option.some Jvm.ClassFile.FieldType.int)) ∈ pm_T := pm_t5 (List.mem_of_getElem? (i := 155) rfl) rfl
theorem w5_156 : (Cond.methodLink "WriterPaceLaw" (162 : Nat) yX8_restore) ∈ pm_T := pm_t5 (List.mem_of_getElem? (i := 156) rfl) rfl
theorem w5_157 : (Cond.instanceMethod yX8_restore) ∈ pm_T := pm_t5 (List.mem_of_getElem? (i := 157) rfl) rfl
theorem w5_158 : (Cond.selects "WriterPace" yX8_restore yX8_restore) ∈ pm_T := pm_t5 (List.mem_of_getElem? (i := 158) rfl) rfl
theorem w5_159 : (Cond.code yX8_restore prog_1_method_37_code (2 : Nat) (Option.some Jvm.ClassFile.FieldType.int)) ∈ pm_T := pm_t5 (List.mem_of_getElem? (i := 159) rfl) rfl
theorem w5_160 : (Cond.methodLink "WriterPaceLaw" (166 : Nat) yX8_count) ∈ pm_T := pm_t5 (List.mem_of_getElem? (i := 160) rfl) rfl
theorem w5_161 : (Cond.instanceMethod yX8_count) ∈ pm_T := pm_t5 (List.mem_of_getElem? (i := 161) rfl) rfl
theorem w5_162 : (Cond.selects "WriterPace" yX8_count yX8_count) ∈ pm_T := pm_t5 (List.mem_of_getElem? (i := 162) rfl) rfl
theorem w5_163 : (Cond.code yX8_count prog_1_method_38_code (2 : Nat) (Option.some Jvm.ClassFile.FieldType.int)) ∈ pm_T := pm_t5 (List.mem_of_getElem? (i := 163) rfl) rfl
theorem w5_164 : (Cond.classLink "WriterPaceLaw" (10 : Nat) "WriterPaceModel") ∈ pm_T := pm_t5 (List.mem_of_getElem? (i := 164) rfl) rfl
theorem w5_165 : (Cond.instantiable "WriterPaceModel" (38 : Nat)) ∈ pm_T := pm_t5 (List.mem_of_getElem? (i := 165) rfl) rfl
theorem w5_166 : (Cond.methodLink "WriterPaceLaw" (12 : Nat) yX9_init) ∈ pm_T := pm_t5 (List.mem_of_getElem? (i := 166) rfl) rfl
theorem w5_167 : (Cond.instanceMethod yX9_init) ∈ pm_T := pm_t5 (List.mem_of_getElem? (i := 167) rfl) rfl
theorem w5_168 : (Cond.code yX9_init prog_11_method_3_code (1 : Nat) (Option.none : Option Jvm.ClassFile.FieldType)) ∈ pm_T := pm_t5 (List.mem_of_getElem? (i := 168) rfl) rfl
theorem w5_169 : (Cond.methodLink "WriterPaceModel" (7 : Nat) objectInit) ∈ pm_T := pm_t5 (List.mem_of_getElem? (i := 169) rfl) rfl
theorem w5_170 : (Cond.methodLink "WriterPaceModel" (71 : Nat) yX9_plain) ∈ pm_T := pm_t5 (List.mem_of_getElem? (i := 170) rfl) rfl
theorem w5_171 : (Cond.static yX9_plain) ∈ pm_T := pm_t5 (List.mem_of_getElem? (i := 171) rfl) rfl
theorem w5_172 : (Cond.code yX9_plain prog_11_method_4_code (2 : Nat) (Option.none : Option Jvm.ClassFile.FieldType)) ∈ pm_T := pm_t5 (List.mem_of_getElem? (i := 172) rfl) rfl
theorem w5_173 : (Cond.fieldLink "WriterPaceModel" (1 : Nat) "WriterPaceModel" "thrown" "I") ∈ pm_T := pm_t5 (List.mem_of_getElem? (i := 173) rfl) rfl
theorem w5_174 : (Cond.fieldLink "WriterPaceModel" (13 : Nat) "WriterPaceModel" "all" "[I") ∈ pm_T := pm_t5 (List.mem_of_getElem? (i := 174) rfl) rfl
theorem w5_175 : (Cond.fieldLink "WriterPaceModel" (17 : Nat) "WriterPaceModel" "estimate" "[D") ∈ pm_T := pm_t5 (List.mem_of_getElem? (i := 175) rfl) rfl
theorem w5_176 : (Cond.fieldLink "WriterPaceModel" (21 : Nat) "WriterPaceModel" "hasImage" "[Z") ∈ pm_T := pm_t5 (List.mem_of_getElem? (i := 176) rfl) rfl
theorem w5_177 : (Cond.fieldLink "WriterPaceModel" (25 : Nat) "WriterPaceModel" "tape" "[I") ∈ pm_T := pm_t5 (List.mem_of_getElem? (i := 177) rfl) rfl
theorem w5_178 : (Cond.fieldLink "WriterPaceModel" (28 : Nat) "WriterPaceModel" "fresh" "[I") ∈ pm_T := pm_t5 (List.mem_of_getElem? (i := 178) rfl) rfl
theorem w5_179 : (Cond.fieldLink "WriterPaceModel" (75 : Nat) "WriterPaceModel" "taped" "I") ∈ pm_T := pm_t5 (List.mem_of_getElem? (i := 179) rfl) rfl
theorem w5_180 : (Cond.fieldLink "WriterPaceModel" (93 : Nat) "WriterPaceModel" "at" "I") ∈ pm_T := pm_t5 (List.mem_of_getElem? (i := 180) rfl) rfl
theorem w5_181 : (Cond.fieldLink "WriterPaceModel" (96 : Nat) "WriterPaceModel" "behind" "I") ∈ pm_T := pm_t5 (List.mem_of_getElem? (i := 181) rfl) rfl
theorem w5_182 : (Cond.fieldLink "WriterPaceModel" (78 : Nat) "WriterPaceModel" "size" "I") ∈ pm_T := pm_t5 (List.mem_of_getElem? (i := 182) rfl) rfl
theorem w5_183 : (Cond.fieldLink "WriterPaceModel" (103 : Nat) "WriterPaceModel" "kind" "I") ∈ pm_T := pm_t5 (List.mem_of_getElem? (i := 183) rfl) rfl
theorem w5_184 : (Cond.fieldLink "WriterPaceModel" (116 : Nat) "WriterPaceModel" "number" "I") ∈ pm_T := pm_t5 (List.mem_of_getElem? (i := 184) rfl) rfl
theorem w5_185 : (Cond.fieldLink "WriterPaceModel" (121 : Nat) "WriterPaceModel" "wrong" "I") ∈ pm_T := pm_t5 (List.mem_of_getElem? (i := 185) rfl) rfl
theorem w5_186 : (Cond.fieldLink "WriterPaceModel" (124 : Nat) "WriterPaceModel" "wrongAt" "I") ∈ pm_T := pm_t5 (List.mem_of_getElem? (i := 186) rfl) rfl
theorem w5_187 : (Cond.fieldLink "WriterPaceModel" (206 : Nat) "WriterPaceModel" "faultKind" "I") ∈ pm_T := pm_t5 (List.mem_of_getElem? (i := 187) rfl) rfl
theorem w5_188 : (Cond.fieldLink "WriterPaceModel" (31 : Nat) "WriterPaceModel" "faultPlace" "I") ∈ pm_T := pm_t5 (List.mem_of_getElem? (i := 188) rfl) rfl
theorem w5_189 : (Cond.fieldLink "WriterPaceModel" (141 : Nat) "WriterPaceModel" "reading" "I") ∈ pm_T := pm_t5 (List.mem_of_getElem? (i := 189) rfl) rfl
theorem w5_190 : (Cond.fieldLink "WriterPaceModel" (34 : Nat) "WriterPaceModel" "reckoned" "[I") ∈ pm_T := pm_t5 (List.mem_of_getElem? (i := 190) rfl) rfl
theorem w5_191 : (Cond.fieldLink "WriterPaceModel" (37 : Nat) "WriterPaceModel" "words" "[I") ∈ pm_T := pm_t5 (List.mem_of_getElem? (i := 191) rfl) rfl
theorem w5_192 : (Cond.fieldLink "WriterPaceModel" (40 : Nat) "WriterPaceModel" "go" "[I") ∈ pm_T := pm_t5 (List.mem_of_getElem? (i := 192) rfl) rfl
theorem w5_193 : (Cond.fieldLink "WriterPaceModel" (43 : Nat) "WriterPaceModel" "goes" "[D") ∈ pm_T := pm_t5 (List.mem_of_getElem? (i := 193) rfl) rfl
theorem w5_194 : (Cond.fieldLink "WriterPaceModel" (216 : Nat) "WriterPaceModel" "limitNow" "I") ∈ pm_T := pm_t5 (List.mem_of_getElem? (i := 194) rfl) rfl
theorem w5_195 : (Cond.fieldLink "WriterPaceModel" (219 : Nat) "WriterPaceModel" "stalled" "I") ∈ pm_T := pm_t5 (List.mem_of_getElem? (i := 195) rfl) rfl
theorem w5_196 : (Cond.fieldLink "WriterPaceModel" (222 : Nat) "WriterPaceModel" "told" "I") ∈ pm_T := pm_t5 (List.mem_of_getElem? (i := 196) rfl) rfl
theorem w5_197 : (Cond.fieldLink "WriterPaceModel" (232 : Nat) "WriterPaceModel" "toldSpeed" "I") ∈ pm_T := pm_t5 (List.mem_of_getElem? (i := 197) rfl) rfl
theorem w5_198 : (Cond.fieldLink "WriterPaceModel" (225 : Nat) "WriterPaceModel" "canWrite" "Z") ∈ pm_T := pm_t5 (List.mem_of_getElem? (i := 198) rfl) rfl
theorem w5_199 : (Cond.fieldLink "WriterPaceModel" (46 : Nat) "WriterPaceModel" "was" "[I") ∈ pm_T := pm_t5 (List.mem_of_getElem? (i := 199) rfl) rfl
theorem w5_200 : (Cond.fieldLink "WriterPaceModel" (49 : Nat) "WriterPaceModel" "wasEstimate" "[D") ∈ pm_T := pm_t5 (List.mem_of_getElem? (i := 200) rfl) rfl
theorem w5_201 : (Cond.fieldLink "WriterPaceModel" (361 : Nat) "WriterPaceModel" "toldWhy" "I") ∈ pm_T := pm_t5 (List.mem_of_getElem? (i := 201) rfl) rfl
theorem w5_202 : (Cond.fieldLink "WriterPaceModel" (383 : Nat) "WriterPaceModel" "x" "I") ∈ pm_T := pm_t5 (List.mem_of_getElem? (i := 202) rfl) rfl
theorem w5_203 : (Cond.fieldLink "WriterPaceModel" (52 : Nat) "WriterPaceModel" "pages" "[I") ∈ pm_T := pm_t5 (List.mem_of_getElem? (i := 203) rfl) rfl
theorem w5_204 : (Cond.fieldLink "WriterPaceModel" (55 : Nat) "WriterPaceModel" "aheadOf" "[I") ∈ pm_T := pm_t5 (List.mem_of_getElem? (i := 204) rfl) rfl
theorem w5_205 : (Cond.fieldLink "WriterPaceModel" (58 : Nat) "WriterPaceModel" "aheadGoes" "[D") ∈ pm_T := pm_t5 (List.mem_of_getElem? (i := 205) rfl) rfl
theorem w5_206 : (Cond.fieldLink "WriterPaceModel" (424 : Nat) "WriterPaceModel" "belowSum" "J") ∈ pm_T := pm_t5 (List.mem_of_getElem? (i := 206) rfl) rfl
theorem w5_207 : (Cond.fieldLink "WriterPaceModel" (428 : Nat) "WriterPaceModel" "allSum" "J") ∈ pm_T := pm_t5 (List.mem_of_getElem? (i := 207) rfl) rfl
theorem w5_208 : (Cond.fieldLink "WriterPaceModel" (61 : Nat) "WriterPaceModel" "rowSort" "[I") ∈ pm_T := pm_t5 (List.mem_of_getElem? (i := 208) rfl) rfl
theorem w5_209 : (Cond.fieldLink "WriterPaceModel" (64 : Nat) "WriterPaceModel" "rowMany" "[I") ∈ pm_T := pm_t5 (List.mem_of_getElem? (i := 209) rfl) rfl
theorem w5_210 : (Cond.fieldLink "WriterPaceModel" (67 : Nat) "WriterPaceModel" "numbers" "[J") ∈ pm_T := pm_t5 (List.mem_of_getElem? (i := 210) rfl) rfl
theorem w5_211 : (Cond.lays "WriterPaceModel" "WriterPaceModel" "thrown" "I") ∈ pm_T := pm_t5 (List.mem_of_getElem? (i := 211) rfl) rfl
theorem w5_213 : (Cond.laysFinal "WriterPaceModel" "WriterPaceModel" "all" "[I") ∈ pm_T := pm_t5 (List.mem_of_getElem? (i := 213) rfl) rfl
theorem w5_215 : (Cond.laysFinal "WriterPaceModel" "WriterPaceModel" "estimate" "[D") ∈ pm_T := pm_t5 (List.mem_of_getElem? (i := 215) rfl) rfl
theorem w5_217 : (Cond.laysFinal "WriterPaceModel" "WriterPaceModel" "hasImage" "[Z") ∈ pm_T := pm_t5 (List.mem_of_getElem? (i := 217) rfl) rfl
theorem w5_219 : (Cond.laysFinal "WriterPaceModel" "WriterPaceModel" "tape" "[I") ∈ pm_T := pm_t5 (List.mem_of_getElem? (i := 219) rfl) rfl
theorem w5_221 : (Cond.laysFinal "WriterPaceModel" "WriterPaceModel" "fresh" "[I") ∈ pm_T := pm_t5 (List.mem_of_getElem? (i := 221) rfl) rfl
theorem w5_223 : (Cond.lays "WriterPaceModel" "WriterPaceModel" "taped" "I") ∈ pm_T := pm_t5 (List.mem_of_getElem? (i := 223) rfl) rfl
theorem w5_225 : (Cond.lays "WriterPaceModel" "WriterPaceModel" "at" "I") ∈ pm_T := pm_t5 (List.mem_of_getElem? (i := 225) rfl) rfl
theorem w5_227 : (Cond.lays "WriterPaceModel" "WriterPaceModel" "behind" "I") ∈ pm_T := pm_t5 (List.mem_of_getElem? (i := 227) rfl) rfl
theorem w5_229 : (Cond.lays "WriterPaceModel" "WriterPaceModel" "size" "I") ∈ pm_T := pm_t5 (List.mem_of_getElem? (i := 229) rfl) rfl
theorem w5_231 : (Cond.lays "WriterPaceModel" "WriterPaceModel" "kind" "I") ∈ pm_T := pm_t5 (List.mem_of_getElem? (i := 231) rfl) rfl
theorem w5_233 : (Cond.lays "WriterPaceModel" "WriterPaceModel" "number" "I") ∈ pm_T := pm_t5 (List.mem_of_getElem? (i := 233) rfl) rfl
theorem w5_235 : (Cond.lays "WriterPaceModel" "WriterPaceModel" "wrong" "I") ∈ pm_T := pm_t5 (List.mem_of_getElem? (i := 235) rfl) rfl
theorem w5_237 : (Cond.lays "WriterPaceModel" "WriterPaceModel" "wrongAt" "I") ∈ pm_T := pm_t5 (List.mem_of_getElem? (i := 237) rfl) rfl
theorem w5_239 : (Cond.lays "WriterPaceModel" "WriterPaceModel" "faultKind" "I") ∈ pm_T := pm_t5 (List.mem_of_getElem? (i := 239) rfl) rfl
theorem w6_1 : (Cond.lays "WriterPaceModel" "WriterPaceModel" "faultPlace" "I") ∈ pm_T := pm_t6 (List.mem_of_getElem? (i := 1) rfl) rfl
theorem w6_3 : (Cond.lays "WriterPaceModel" "WriterPaceModel" "reading" "I") ∈ pm_T := pm_t6 (List.mem_of_getElem? (i := 3) rfl) rfl
theorem w6_5 : (Cond.laysFinal "WriterPaceModel" "WriterPaceModel" "reckoned" "[I") ∈ pm_T := pm_t6 (List.mem_of_getElem? (i := 5) rfl) rfl
theorem w6_7 : (Cond.laysFinal "WriterPaceModel" "WriterPaceModel" "words" "[I") ∈ pm_T := pm_t6 (List.mem_of_getElem? (i := 7) rfl) rfl
theorem w6_9 : (Cond.laysFinal "WriterPaceModel" "WriterPaceModel" "go" "[I") ∈ pm_T := pm_t6 (List.mem_of_getElem? (i := 9) rfl) rfl
theorem w6_11 : (Cond.laysFinal "WriterPaceModel" "WriterPaceModel" "goes" "[D") ∈ pm_T := pm_t6 (List.mem_of_getElem? (i := 11) rfl) rfl
theorem w6_13 : (Cond.lays "WriterPaceModel" "WriterPaceModel" "limitNow" "I") ∈ pm_T := pm_t6 (List.mem_of_getElem? (i := 13) rfl) rfl
theorem w6_15 : (Cond.lays "WriterPaceModel" "WriterPaceModel" "stalled" "I") ∈ pm_T := pm_t6 (List.mem_of_getElem? (i := 15) rfl) rfl
theorem w6_17 : (Cond.lays "WriterPaceModel" "WriterPaceModel" "told" "I") ∈ pm_T := pm_t6 (List.mem_of_getElem? (i := 17) rfl) rfl
theorem w6_19 : (Cond.lays "WriterPaceModel" "WriterPaceModel" "toldSpeed" "I") ∈ pm_T := pm_t6 (List.mem_of_getElem? (i := 19) rfl) rfl
theorem w6_21 : (Cond.lays "WriterPaceModel" "WriterPaceModel" "canWrite" "Z") ∈ pm_T := pm_t6 (List.mem_of_getElem? (i := 21) rfl) rfl
theorem w6_23 : (Cond.laysFinal "WriterPaceModel" "WriterPaceModel" "was" "[I") ∈ pm_T := pm_t6 (List.mem_of_getElem? (i := 23) rfl) rfl
theorem w6_25 : (Cond.laysFinal "WriterPaceModel" "WriterPaceModel" "wasEstimate" "[D") ∈ pm_T := pm_t6 (List.mem_of_getElem? (i := 25) rfl) rfl
theorem w6_27 : (Cond.lays "WriterPaceModel" "WriterPaceModel" "toldWhy" "I") ∈ pm_T := pm_t6 (List.mem_of_getElem? (i := 27) rfl) rfl
theorem w6_29 : (Cond.lays "WriterPaceModel" "WriterPaceModel" "x" "I") ∈ pm_T := pm_t6 (List.mem_of_getElem? (i := 29) rfl) rfl
theorem w6_31 : (Cond.laysFinal "WriterPaceModel" "WriterPaceModel" "pages" "[I") ∈ pm_T := pm_t6 (List.mem_of_getElem? (i := 31) rfl) rfl
theorem w6_33 : (Cond.laysFinal "WriterPaceModel" "WriterPaceModel" "aheadOf" "[I") ∈ pm_T := pm_t6 (List.mem_of_getElem? (i := 33) rfl) rfl
theorem w6_35 : (Cond.laysFinal "WriterPaceModel" "WriterPaceModel" "aheadGoes" "[D") ∈ pm_T := pm_t6 (List.mem_of_getElem? (i := 35) rfl) rfl
theorem w6_37 : (Cond.lays "WriterPaceModel" "WriterPaceModel" "belowSum" "J") ∈ pm_T := pm_t6 (List.mem_of_getElem? (i := 37) rfl) rfl
theorem w6_39 : (Cond.lays "WriterPaceModel" "WriterPaceModel" "allSum" "J") ∈ pm_T := pm_t6 (List.mem_of_getElem? (i := 39) rfl) rfl
theorem w6_41 : (Cond.laysFinal "WriterPaceModel" "WriterPaceModel" "rowSort" "[I") ∈ pm_T := pm_t6 (List.mem_of_getElem? (i := 41) rfl) rfl
theorem w6_43 : (Cond.laysFinal "WriterPaceModel" "WriterPaceModel" "rowMany" "[I") ∈ pm_T := pm_t6 (List.mem_of_getElem? (i := 43) rfl) rfl
theorem w6_45 : (Cond.laysFinal "WriterPaceModel" "WriterPaceModel" "numbers" "[J") ∈ pm_T := pm_t6 (List.mem_of_getElem? (i := 45) rfl) rfl
theorem w6_48 : (Cond.methodLink "WriterPaceLaw" (17 : Nat) yX9_feed) ∈ pm_T := pm_t6 (List.mem_of_getElem? (i := 48) rfl) rfl
theorem w6_49 : (Cond.instanceMethod yX9_feed) ∈ pm_T := pm_t6 (List.mem_of_getElem? (i := 49) rfl) rfl
theorem w6_50 : (Cond.selects "WriterPaceModel" yX9_feed yX9_feed) ∈ pm_T := pm_t6 (List.mem_of_getElem? (i := 50) rfl) rfl
theorem w6_51 : (Cond.code yX9_feed prog_11_method_5_code (8 : Nat) (Option.some Jvm.ClassFile.FieldType.int)) ∈ pm_T := pm_t6 (List.mem_of_getElem? (i := 51) rfl) rfl
theorem w6_52 : (Cond.methodLink "WriterPaceLaw" (22 : Nat) yX9_host) ∈ pm_T := pm_t6 (List.mem_of_getElem? (i := 52) rfl) rfl
theorem w6_53 : (Cond.instanceMethod yX9_host) ∈ pm_T := pm_t6 (List.mem_of_getElem? (i := 53) rfl) rfl
theorem w6_54 : (Cond.selects "WriterPaceModel" yX9_host yX9_host) ∈ pm_T := pm_t6 (List.mem_of_getElem? (i := 54) rfl) rfl
theorem w6_55 : (Cond.code yX9_host prog_11_method_34_code (3 : Nat) (Option.some Jvm.ClassFile.FieldType.int)) ∈ pm_T := pm_t6 (List.mem_of_getElem? (i := 55) rfl) rfl
theorem w6_56 : (Cond.methodLink "WriterPaceModel" (137 : Nat) yX9_within) ∈ pm_T := pm_t6 (List.mem_of_getElem? (i := 56) rfl) rfl
theorem w6_57 : (Cond.static yX9_within) ∈ pm_T := pm_t6 (List.mem_of_getElem? (i := 57) rfl) rfl
theorem w6_58 : (Cond.code yX9_within prog_11_method_2_code (6 : Nat) (Option.some Jvm.ClassFile.FieldType.boolean)) ∈ pm_T := pm_t6 (List.mem_of_getElem? (i := 58) rfl) rfl
theorem w6_59 : (Cond.methodLink "WriterPaceModel" (130 : Nat) yX9_steps) ∈ pm_T := pm_t6 (List.mem_of_getElem? (i := 59) rfl) rfl
theorem w6_61 : (Cond.instanceMethod yX9_steps) ∈ pm_T := pm_t6 (List.mem_of_getElem? (i := 61) rfl) rfl
theorem w6_62 : (Cond.code yX9_steps prog_11_method_10_code (2 : Nat) (Option.none : Option Jvm.ClassFile.FieldType)) ∈ pm_T := pm_t6 (List.mem_of_getElem? (i := 62) rfl) rfl
theorem w6_63 : (Cond.methodLink "WriterPaceModel" (99 : Nat) yX9_see) ∈ pm_T := pm_t6 (List.mem_of_getElem? (i := 63) rfl) rfl
theorem w6_65 : (Cond.instanceMethod yX9_see) ∈ pm_T := pm_t6 (List.mem_of_getElem? (i := 65) rfl) rfl
theorem w6_66 : (Cond.code yX9_see prog_11_method_6_code (2 : Nat) (Option.some Jvm.ClassFile.FieldType.int)) ∈ pm_T := pm_t6 (List.mem_of_getElem? (i := 66) rfl) rfl
theorem w6_67 : (Cond.methodLink "WriterPaceModel" (106 : Nat) yX9_isSmall) ∈ pm_T := pm_t6 (List.mem_of_getElem? (i := 67) rfl) rfl
theorem w6_68 : (Cond.static yX9_isSmall) ∈ pm_T := pm_t6 (List.mem_of_getElem? (i := 68) rfl) rfl
theorem w6_69 : (Cond.code yX9_isSmall prog_11_method_7_code (1 : Nat) (Option.some Jvm.ClassFile.FieldType.boolean)) ∈ pm_T := pm_t6 (List.mem_of_getElem? (i := 69) rfl) rfl
theorem w6_70 : (Cond.methodLink "WriterPaceModel" (110 : Nat) yX9_keyAt) ∈ pm_T := pm_t6 (List.mem_of_getElem? (i := 70) rfl) rfl
theorem w6_72 : (Cond.instanceMethod yX9_keyAt) ∈ pm_T := pm_t6 (List.mem_of_getElem? (i := 72) rfl) rfl
theorem w6_73 : (Cond.code yX9_keyAt prog_11_method_9_code (4 : Nat) (Option.some Jvm.ClassFile.FieldType.int)) ∈ pm_T := pm_t6 (List.mem_of_getElem? (i := 73) rfl) rfl
theorem w6_75 : (Cond.methodLink "WriterPaceModel" (83 : Nat) yJ0_length_8abf5) ∈ pm_T := pm_t6 (List.mem_of_getElem? (i := 75) rfl) rfl
theorem w6_76 : (Cond.methodLink "WriterPaceModel" (89 : Nat) yJ0_charAt_5068e) ∈ pm_T := pm_t6 (List.mem_of_getElem? (i := 76) rfl) rfl
theorem w6_77 : (Cond.methodLink "WriterPaceModel" (113 : Nat) yX9_isDigit) ∈ pm_T := pm_t6 (List.mem_of_getElem? (i := 77) rfl) rfl
theorem w6_78 : (Cond.static yX9_isDigit) ∈ pm_T := pm_t6 (List.mem_of_getElem? (i := 78) rfl) rfl
theorem w6_79 : (Cond.code yX9_isDigit prog_11_method_8_code (1 : Nat) (Option.some Jvm.ClassFile.FieldType.boolean)) ∈ pm_T := pm_t6 (List.mem_of_getElem? (i := 79) rfl) rfl
theorem w6_81 : (Cond.methodLink "WriterPaceModel" (197 : Nat) yX9_readHost) ∈ pm_T := pm_t6 (List.mem_of_getElem? (i := 81) rfl) rfl
theorem w6_83 : (Cond.instanceMethod yX9_readHost) ∈ pm_T := pm_t6 (List.mem_of_getElem? (i := 83) rfl) rfl
theorem w6_84 : (Cond.code yX9_readHost prog_11_method_27_code (5 : Nat) (Option.none : Option Jvm.ClassFile.FieldType)) ∈ pm_T := pm_t6 (List.mem_of_getElem? (i := 84) rfl) rfl
theorem w6_85 : (Cond.methodLink "WriterPaceModel" (156 : Nat) yX9_eats) ∈ pm_T := pm_t6 (List.mem_of_getElem? (i := 85) rfl) rfl
theorem w6_87 : (Cond.instanceMethod yX9_eats) ∈ pm_T := pm_t6 (List.mem_of_getElem? (i := 87) rfl) rfl
theorem w6_88 : (Cond.code yX9_eats prog_11_method_13_code (2 : Nat) (Option.some Jvm.ClassFile.FieldType.boolean)) ∈ pm_T := pm_t6 (List.mem_of_getElem? (i := 88) rfl) rfl
theorem w6_89 : (Cond.methodLink "WriterPaceModel" (127 : Nat) yX9_is) ∈ pm_T := pm_t6 (List.mem_of_getElem? (i := 89) rfl) rfl
theorem w6_91 : (Cond.instanceMethod yX9_is) ∈ pm_T := pm_t6 (List.mem_of_getElem? (i := 91) rfl) rfl
theorem w6_92 : (Cond.code yX9_is prog_11_method_12_code (2 : Nat) (Option.some Jvm.ClassFile.FieldType.boolean)) ∈ pm_T := pm_t6 (List.mem_of_getElem? (i := 92) rfl) rfl
theorem w6_93 : (Cond.methodLink "WriterPaceModel" (133 : Nat) yX9_fails) ∈ pm_T := pm_t6 (List.mem_of_getElem? (i := 93) rfl) rfl
theorem w6_95 : (Cond.instanceMethod yX9_fails) ∈ pm_T := pm_t6 (List.mem_of_getElem? (i := 95) rfl) rfl
theorem w6_96 : (Cond.code yX9_fails prog_11_method_11_code (2 : Nat) (Option.none : Option Jvm.ClassFile.FieldType)) ∈ pm_T := pm_t6 (List.mem_of_getElem? (i := 96) rfl) rfl
theorem w6_97 : (Cond.methodLink "WriterPaceModel" (181 : Nat) yX9_named) ∈ pm_T := pm_t6 (List.mem_of_getElem? (i := 97) rfl) rfl
theorem w6_99 : (Cond.instanceMethod yX9_named) ∈ pm_T := pm_t6 (List.mem_of_getElem? (i := 99) rfl) rfl
theorem w6_100 : (Cond.code yX9_named prog_11_method_26_code (4 : Nat) (Option.some Jvm.ClassFile.FieldType.int)) ∈ pm_T := pm_t6 (List.mem_of_getElem? (i := 100) rfl) rfl
theorem w6_101 : (Cond.methodLink "WriterPaceModel" (177 : Nat) yX9_takes) ∈ pm_T := pm_t6 (List.mem_of_getElem? (i := 101) rfl) rfl
theorem w6_103 : (Cond.instanceMethod yX9_takes) ∈ pm_T := pm_t6 (List.mem_of_getElem? (i := 103) rfl) rfl
theorem w6_104 : (Cond.code yX9_takes prog_11_method_14_code (4 : Nat) (Option.some Jvm.ClassFile.FieldType.int)) ∈ pm_T := pm_t6 (List.mem_of_getElem? (i := 104) rfl) rfl
theorem w6_105 : (Cond.methodLink "WriterPaceModel" (200 : Nat) yX9_closes) ∈ pm_T := pm_t6 (List.mem_of_getElem? (i := 105) rfl) rfl
theorem w6_107 : (Cond.instanceMethod yX9_closes) ∈ pm_T := pm_t6 (List.mem_of_getElem? (i := 107) rfl) rfl
theorem w6_108 : (Cond.code yX9_closes prog_11_method_33_code (1 : Nat) (Option.none : Option Jvm.ClassFile.FieldType)) ∈ pm_T := pm_t6 (List.mem_of_getElem? (i := 108) rfl) rfl
theorem w6_109 : (Cond.methodLink "WriterPaceModel" (203 : Nat) yX9_readLine) ∈ pm_T := pm_t6 (List.mem_of_getElem? (i := 109) rfl) rfl
theorem w6_111 : (Cond.instanceMethod yX9_readLine) ∈ pm_T := pm_t6 (List.mem_of_getElem? (i := 111) rfl) rfl
theorem w6_112 : (Cond.code yX9_readLine prog_11_method_32_code (1 : Nat) (Option.none : Option Jvm.ClassFile.FieldType)) ∈ pm_T := pm_t6 (List.mem_of_getElem? (i := 112) rfl) rfl
theorem w6_113 : (Cond.methodLink "WriterPaceModel" (185 : Nat) yX9_readDevice) ∈ pm_T := pm_t6 (List.mem_of_getElem? (i := 113) rfl) rfl
theorem w6_115 : (Cond.instanceMethod yX9_readDevice) ∈ pm_T := pm_t6 (List.mem_of_getElem? (i := 115) rfl) rfl
theorem w6_116 : (Cond.code yX9_readDevice prog_11_method_28_code (2 : Nat) (Option.none : Option Jvm.ClassFile.FieldType)) ∈ pm_T := pm_t6 (List.mem_of_getElem? (i := 116) rfl) rfl
theorem w6_117 : (Cond.methodLink "WriterPaceModel" (188 : Nat) yX9_readFile) ∈ pm_T := pm_t6 (List.mem_of_getElem? (i := 117) rfl) rfl
theorem w6_119 : (Cond.instanceMethod yX9_readFile) ∈ pm_T := pm_t6 (List.mem_of_getElem? (i := 119) rfl) rfl
theorem w6_120 : (Cond.code yX9_readFile prog_11_method_29_code (2 : Nat) (Option.none : Option Jvm.ClassFile.FieldType)) ∈ pm_T := pm_t6 (List.mem_of_getElem? (i := 120) rfl) rfl
theorem w6_121 : (Cond.methodLink "WriterPaceModel" (191 : Nat) yX9_readWriter) ∈ pm_T := pm_t6 (List.mem_of_getElem? (i := 121) rfl) rfl
theorem w6_123 : (Cond.instanceMethod yX9_readWriter) ∈ pm_T := pm_t6 (List.mem_of_getElem? (i := 123) rfl) rfl
theorem w6_124 : (Cond.code yX9_readWriter prog_11_method_30_code (2 : Nat) (Option.none : Option Jvm.ClassFile.FieldType)) ∈ pm_T := pm_t6 (List.mem_of_getElem? (i := 124) rfl) rfl
theorem w6_125 : (Cond.methodLink "WriterPaceModel" (194 : Nat) yX9_readLaw) ∈ pm_T := pm_t6 (List.mem_of_getElem? (i := 125) rfl) rfl
theorem w6_127 : (Cond.instanceMethod yX9_readLaw) ∈ pm_T := pm_t6 (List.mem_of_getElem? (i := 127) rfl) rfl
theorem w6_128 : (Cond.code yX9_readLaw prog_11_method_31_code (3 : Nat) (Option.none : Option Jvm.ClassFile.FieldType)) ∈ pm_T := pm_t6 (List.mem_of_getElem? (i := 128) rfl) rfl
theorem w6_129 : (Cond.methodLink "WriterPaceModel" (153 : Nat) yX9_readSum) ∈ pm_T := pm_t6 (List.mem_of_getElem? (i := 129) rfl) rfl
theorem w6_131 : (Cond.instanceMethod yX9_readSum) ∈ pm_T := pm_t6 (List.mem_of_getElem? (i := 131) rfl) rfl
theorem w6_132 : (Cond.code yX9_readSum prog_11_method_22_code (3 : Nat) (Option.none : Option Jvm.ClassFile.FieldType)) ∈ pm_T := pm_t6 (List.mem_of_getElem? (i := 132) rfl) rfl
theorem w6_133 : (Cond.methodLink "WriterPaceModel" (168 : Nat) yX9_readTerm) ∈ pm_T := pm_t6 (List.mem_of_getElem? (i := 133) rfl) rfl
theorem w6_135 : (Cond.instanceMethod yX9_readTerm) ∈ pm_T := pm_t6 (List.mem_of_getElem? (i := 135) rfl) rfl
theorem w6_136 : (Cond.code yX9_readTerm prog_11_method_21_code (2 : Nat) (Option.none : Option Jvm.ClassFile.FieldType)) ∈ pm_T := pm_t6 (List.mem_of_getElem? (i := 136) rfl) rfl
theorem w6_137 : (Cond.methodLink "WriterPaceModel" (165 : Nat) yX9_readAtom) ∈ pm_T := pm_t6 (List.mem_of_getElem? (i := 137) rfl) rfl
theorem w6_139 : (Cond.instanceMethod yX9_readAtom) ∈ pm_T := pm_t6 (List.mem_of_getElem? (i := 139) rfl) rfl
theorem w6_140 : (Cond.code yX9_readAtom prog_11_method_19_code (2 : Nat) (Option.none : Option Jvm.ClassFile.FieldType)) ∈ pm_T := pm_t6 (List.mem_of_getElem? (i := 140) rfl) rfl
theorem w6_141 : (Cond.methodLink "WriterPaceModel" (144 : Nat) yX9_codes) ∈ pm_T := pm_t6 (List.mem_of_getElem? (i := 141) rfl) rfl
theorem w6_143 : (Cond.instanceMethod yX9_codes) ∈ pm_T := pm_t6 (List.mem_of_getElem? (i := 143) rfl) rfl
theorem w6_144 : (Cond.code yX9_codes prog_11_method_17_code (2 : Nat) (Option.none : Option Jvm.ClassFile.FieldType)) ∈ pm_T := pm_t6 (List.mem_of_getElem? (i := 144) rfl) rfl
theorem w6_145 : (Cond.methodLink "WriterPaceModel" (147 : Nat) yX9_wordOf) ∈ pm_T := pm_t6 (List.mem_of_getElem? (i := 145) rfl) rfl
theorem w6_147 : (Cond.instanceMethod yX9_wordOf) ∈ pm_T := pm_t6 (List.mem_of_getElem? (i := 147) rfl) rfl
theorem w6_148 : (Cond.code yX9_wordOf prog_11_method_16_code (2 : Nat) (Option.some Jvm.ClassFile.FieldType.int)) ∈ pm_T := pm_t6 (List.mem_of_getElem? (i := 148) rfl) rfl
theorem w6_149 : (Cond.methodLink "WriterPaceModel" (150 : Nat) yX9_goesIn) ∈ pm_T := pm_t6 (List.mem_of_getElem? (i := 149) rfl) rfl
theorem w6_151 : (Cond.instanceMethod yX9_goesIn) ∈ pm_T := pm_t6 (List.mem_of_getElem? (i := 151) rfl) rfl
theorem w6_152 : (Cond.code yX9_goesIn prog_11_method_18_code (2 : Nat) (Option.some Jvm.ClassFile.FieldType.boolean)) ∈ pm_T := pm_t6 (List.mem_of_getElem? (i := 152) rfl) rfl
theorem w6_153 : (Cond.methodLink "WriterPaceModel" (159 : Nat) yX9_readIf) ∈ pm_T := pm_t6 (List.mem_of_getElem? (i := 153) rfl) rfl
theorem w6_155 : (Cond.instanceMethod yX9_readIf) ∈ pm_T := pm_t6 (List.mem_of_getElem? (i := 155) rfl) rfl
theorem w6_156 : (Cond.code yX9_readIf prog_11_method_20_code (2 : Nat) (Option.none : Option Jvm.ClassFile.FieldType)) ∈ pm_T := pm_t6 (List.mem_of_getElem? (i := 156) rfl) rfl
theorem w6_157 : (Cond.methodLink "WriterPaceModel" (162 : Nat) yX9_readTruth) ∈ pm_T := pm_t6 (List.mem_of_getElem? (i := 157) rfl) rfl
theorem w6_159 : (Cond.instanceMethod yX9_readTruth) ∈ pm_T := pm_t6 (List.mem_of_getElem? (i := 159) rfl) rfl
theorem w6_160 : (Cond.code yX9_readTruth prog_11_method_25_code (2 : Nat) (Option.none : Option Jvm.ClassFile.FieldType)) ∈ pm_T := pm_t6 (List.mem_of_getElem? (i := 160) rfl) rfl
theorem w6_161 : (Cond.methodLink "WriterPaceModel" (174 : Nat) yX9_readBoth) ∈ pm_T := pm_t6 (List.mem_of_getElem? (i := 161) rfl) rfl
theorem w6_163 : (Cond.instanceMethod yX9_readBoth) ∈ pm_T := pm_t6 (List.mem_of_getElem? (i := 163) rfl) rfl
theorem w6_164 : (Cond.code yX9_readBoth prog_11_method_24_code (2 : Nat) (Option.none : Option Jvm.ClassFile.FieldType)) ∈ pm_T := pm_t6 (List.mem_of_getElem? (i := 164) rfl) rfl
theorem w6_165 : (Cond.methodLink "WriterPaceModel" (171 : Nat) yX9_readUnit) ∈ pm_T := pm_t6 (List.mem_of_getElem? (i := 165) rfl) rfl
theorem w6_167 : (Cond.instanceMethod yX9_readUnit) ∈ pm_T := pm_t6 (List.mem_of_getElem? (i := 167) rfl) rfl
theorem w6_168 : (Cond.code yX9_readUnit prog_11_method_23_code (3 : Nat) (Option.none : Option Jvm.ClassFile.FieldType)) ∈ pm_T := pm_t6 (List.mem_of_getElem? (i := 168) rfl) rfl
theorem w6_169 : (Cond.methodLink "WriterPaceLaw" (26 : Nat) yX9_fault) ∈ pm_T := pm_t6 (List.mem_of_getElem? (i := 169) rfl) rfl
theorem w6_170 : (Cond.instanceMethod yX9_fault) ∈ pm_T := pm_t6 (List.mem_of_getElem? (i := 170) rfl) rfl
theorem w6_171 : (Cond.selects "WriterPaceModel" yX9_fault yX9_fault) ∈ pm_T := pm_t6 (List.mem_of_getElem? (i := 171) rfl) rfl
theorem w6_172 : (Cond.code yX9_fault prog_11_method_35_code (2 : Nat) (Option.some Jvm.ClassFile.FieldType.int)) ∈ pm_T := pm_t6 (List.mem_of_getElem? (i := 172) rfl) rfl
theorem w6_173 : (Cond.methodLink "WriterPaceLaw" (30 : Nat) yX9_set) ∈ pm_T := pm_t6 (List.mem_of_getElem? (i := 173) rfl) rfl
theorem w6_174 : (Cond.instanceMethod yX9_set) ∈ pm_T := pm_t6 (List.mem_of_getElem? (i := 174) rfl) rfl
theorem w6_175 : (Cond.selects "WriterPaceModel" yX9_set yX9_set) ∈ pm_T := pm_t6 (List.mem_of_getElem? (i := 175) rfl) rfl
theorem w6_176 : (Cond.code yX9_set prog_11_method_66_code (2 : Nat) (Option.some Jvm.ClassFile.FieldType.int)) ∈ pm_T := pm_t6 (List.mem_of_getElem? (i := 176) rfl) rfl
theorem w6_177 : (Cond.constantLong "WriterPaceModel" (306 : Nat) (7 : Int64)) ∈ pm_T := pm_t6 (List.mem_of_getElem? (i := 177) rfl) rfl
theorem w6_178 : (Cond.methodLink "WriterPaceLaw" (35 : Nat) yX9_device) ∈ pm_T := pm_t6 (List.mem_of_getElem? (i := 178) rfl) rfl
theorem w6_179 : (Cond.instanceMethod yX9_device) ∈ pm_T := pm_t6 (List.mem_of_getElem? (i := 179) rfl) rfl
theorem w6_180 : (Cond.selects "WriterPaceModel" yX9_device yX9_device) ∈ pm_T := pm_t6 (List.mem_of_getElem? (i := 180) rfl) rfl
theorem w6_181 : (Cond.code yX9_device prog_11_method_67_code (3 : Nat) (Option.some Jvm.ClassFile.FieldType.long)) ∈ pm_T := pm_t6 (List.mem_of_getElem? (i := 181) rfl) rfl
theorem w6_182 : (Cond.methodLink "WriterPaceModel" (308 : Nat) yX9_isDevice) ∈ pm_T := pm_t6 (List.mem_of_getElem? (i := 182) rfl) rfl
theorem w6_184 : (Cond.instanceMethod yX9_isDevice) ∈ pm_T := pm_t6 (List.mem_of_getElem? (i := 184) rfl) rfl
theorem w6_185 : (Cond.code yX9_isDevice prog_11_method_36_code (3 : Nat) (Option.some Jvm.ClassFile.FieldType.boolean)) ∈ pm_T := pm_t6 (List.mem_of_getElem? (i := 185) rfl) rfl
theorem w6_186 : (Cond.constantLong "WriterPaceModel" (312 : Nat) (-2 : Int64)) ∈ pm_T := pm_t6 (List.mem_of_getElem? (i := 186) rfl) rfl
theorem w6_187 : (Cond.methodLink "WriterPaceModel" (314 : Nat) yX9_begins) ∈ pm_T := pm_t6 (List.mem_of_getElem? (i := 187) rfl) rfl
theorem w6_189 : (Cond.instanceMethod yX9_begins) ∈ pm_T := pm_t6 (List.mem_of_getElem? (i := 189) rfl) rfl
theorem w6_190 : (Cond.code yX9_begins prog_11_method_43_code (2 : Nat) (Option.none : Option Jvm.ClassFile.FieldType)) ∈ pm_T := pm_t6 (List.mem_of_getElem? (i := 190) rfl) rfl
theorem w6_191 : (Cond.methodLink "WriterPaceModel" (282 : Nat) yX9_dirtyOn) ∈ pm_T := pm_t6 (List.mem_of_getElem? (i := 191) rfl) rfl
theorem w6_193 : (Cond.instanceMethod yX9_dirtyOn) ∈ pm_T := pm_t6 (List.mem_of_getElem? (i := 193) rfl) rfl
theorem w6_194 : (Cond.code yX9_dirtyOn prog_11_method_47_code (4 : Nat) (Option.some Jvm.ClassFile.FieldType.int)) ∈ pm_T := pm_t6 (List.mem_of_getElem? (i := 194) rfl) rfl
theorem w6_195 : (Cond.constantDouble "WriterPaceModel" (317 : Nat) (4652007308841189376 : UInt64)) ∈ pm_T := pm_t6 (List.mem_of_getElem? (i := 195) rfl) rfl
theorem w6_196 : (Cond.methodLink "WriterPaceModel" (279 : Nat) yX9_shareOf) ∈ pm_T := pm_t6 (List.mem_of_getElem? (i := 196) rfl) rfl
theorem w6_198 : (Cond.instanceMethod yX9_shareOf) ∈ pm_T := pm_t6 (List.mem_of_getElem? (i := 198) rfl) rfl
theorem w6_199 : (Cond.code yX9_shareOf prog_11_method_59_code (4 : Nat) (Option.some Jvm.ClassFile.FieldType.int)) ∈ pm_T := pm_t6 (List.mem_of_getElem? (i := 199) rfl) rfl
theorem w6_200 : (Cond.methodLink "WriterPaceModel" (229 : Nat) yX9_sumOf) ∈ pm_T := pm_t6 (List.mem_of_getElem? (i := 200) rfl) rfl
theorem w6_202 : (Cond.instanceMethod yX9_sumOf) ∈ pm_T := pm_t6 (List.mem_of_getElem? (i := 202) rfl) rfl
theorem w6_203 : (Cond.code yX9_sumOf prog_11_method_45_code (5 : Nat) (Option.some Jvm.ClassFile.FieldType.int)) ∈ pm_T := pm_t6 (List.mem_of_getElem? (i := 203) rfl) rfl
theorem w6_204 : (Cond.methodLink "WriterPaceLaw" (40 : Nat) yX9_file) ∈ pm_T := pm_t6 (List.mem_of_getElem? (i := 204) rfl) rfl
theorem w6_205 : (Cond.instanceMethod yX9_file) ∈ pm_T := pm_t6 (List.mem_of_getElem? (i := 205) rfl) rfl
theorem w6_206 : (Cond.selects "WriterPaceModel" yX9_file yX9_file) ∈ pm_T := pm_t6 (List.mem_of_getElem? (i := 206) rfl) rfl
theorem w6_207 : (Cond.code yX9_file prog_11_method_68_code (3 : Nat) (Option.some Jvm.ClassFile.FieldType.int)) ∈ pm_T := pm_t6 (List.mem_of_getElem? (i := 207) rfl) rfl
theorem w6_208 : (Cond.methodLink "WriterPaceModel" (319 : Nat) yX9_isFile) ∈ pm_T := pm_t6 (List.mem_of_getElem? (i := 208) rfl) rfl
theorem w6_210 : (Cond.instanceMethod yX9_isFile) ∈ pm_T := pm_t6 (List.mem_of_getElem? (i := 210) rfl) rfl
theorem w6_211 : (Cond.code yX9_isFile prog_11_method_37_code (2 : Nat) (Option.some Jvm.ClassFile.FieldType.boolean)) ∈ pm_T := pm_t6 (List.mem_of_getElem? (i := 211) rfl) rfl
theorem w6_212 : (Cond.methodLink "WriterPaceModel" (255 : Nat) yX9_isOld) ∈ pm_T := pm_t6 (List.mem_of_getElem? (i := 212) rfl) rfl
theorem w6_214 : (Cond.instanceMethod yX9_isOld) ∈ pm_T := pm_t6 (List.mem_of_getElem? (i := 214) rfl) rfl
theorem w6_215 : (Cond.code yX9_isOld prog_11_method_53_code (2 : Nat) (Option.some Jvm.ClassFile.FieldType.boolean)) ∈ pm_T := pm_t6 (List.mem_of_getElem? (i := 215) rfl) rfl
theorem w6_216 : (Cond.methodLink "WriterPaceLaw" (44 : Nat) yX9_writer) ∈ pm_T := pm_t6 (List.mem_of_getElem? (i := 216) rfl) rfl
theorem w6_217 : (Cond.instanceMethod yX9_writer) ∈ pm_T := pm_t6 (List.mem_of_getElem? (i := 217) rfl) rfl
theorem w6_218 : (Cond.selects "WriterPaceModel" yX9_writer yX9_writer) ∈ pm_T := pm_t6 (List.mem_of_getElem? (i := 218) rfl) rfl
theorem w6_219 : (Cond.code yX9_writer prog_11_method_69_code (3 : Nat) (Option.some Jvm.ClassFile.FieldType.int)) ∈ pm_T := pm_t6 (List.mem_of_getElem? (i := 219) rfl) rfl
theorem w6_220 : (Cond.methodLink "WriterPaceModel" (322 : Nat) yX9_isWriter) ∈ pm_T := pm_t6 (List.mem_of_getElem? (i := 220) rfl) rfl
theorem w6_222 : (Cond.instanceMethod yX9_isWriter) ∈ pm_T := pm_t6 (List.mem_of_getElem? (i := 222) rfl) rfl
theorem w6_223 : (Cond.code yX9_isWriter prog_11_method_38_code (3 : Nat) (Option.some Jvm.ClassFile.FieldType.boolean)) ∈ pm_T := pm_t6 (List.mem_of_getElem? (i := 223) rfl) rfl
theorem w6_224 : (Cond.methodLink "WriterPaceLaw" (48 : Nat) yX9_next) ∈ pm_T := pm_t6 (List.mem_of_getElem? (i := 224) rfl) rfl
theorem w6_225 : (Cond.instanceMethod yX9_next) ∈ pm_T := pm_t6 (List.mem_of_getElem? (i := 225) rfl) rfl
theorem w6_226 : (Cond.selects "WriterPaceModel" yX9_next yX9_next) ∈ pm_T := pm_t6 (List.mem_of_getElem? (i := 226) rfl) rfl
theorem w6_227 : (Cond.code yX9_next prog_11_method_70_code (2 : Nat) (Option.some Jvm.ClassFile.FieldType.int)) ∈ pm_T := pm_t6 (List.mem_of_getElem? (i := 227) rfl) rfl
theorem w6_228 : (Cond.methodLink "WriterPaceModel" (267 : Nat) yX9_nextOn) ∈ pm_T := pm_t6 (List.mem_of_getElem? (i := 228) rfl) rfl
theorem w6_230 : (Cond.instanceMethod yX9_nextOn) ∈ pm_T := pm_t6 (List.mem_of_getElem? (i := 230) rfl) rfl
theorem w6_231 : (Cond.code yX9_nextOn prog_11_method_56_code (3 : Nat) (Option.some Jvm.ClassFile.FieldType.int)) ∈ pm_T := pm_t6 (List.mem_of_getElem? (i := 231) rfl) rfl
theorem w6_232 : (Cond.methodLink "WriterPaceModel" (258 : Nat) yX9_oldOn) ∈ pm_T := pm_t6 (List.mem_of_getElem? (i := 232) rfl) rfl
theorem w6_234 : (Cond.instanceMethod yX9_oldOn) ∈ pm_T := pm_t6 (List.mem_of_getElem? (i := 234) rfl) rfl
theorem w6_235 : (Cond.code yX9_oldOn prog_11_method_54_code (4 : Nat) (Option.some Jvm.ClassFile.FieldType.int)) ∈ pm_T := pm_t6 (List.mem_of_getElem? (i := 235) rfl) rfl
theorem w6_236 : (Cond.methodLink "WriterPaceModel" (261 : Nat) yX9_allNow) ∈ pm_T := pm_t6 (List.mem_of_getElem? (i := 236) rfl) rfl
theorem w6_238 : (Cond.instanceMethod yX9_allNow) ∈ pm_T := pm_t6 (List.mem_of_getElem? (i := 238) rfl) rfl
theorem w6_239 : (Cond.code yX9_allNow prog_11_method_46_code (1 : Nat) (Option.some Jvm.ClassFile.FieldType.int)) ∈ pm_T := pm_t6 (List.mem_of_getElem? (i := 239) rfl) rfl
theorem w7_0 : (Cond.methodLink "WriterPaceModel" (264 : Nat) yX9_turnOn) ∈ pm_T := pm_t7 (List.mem_of_getElem? (i := 0) rfl) rfl
theorem w7_2 : (Cond.instanceMethod yX9_turnOn) ∈ pm_T := pm_t7 (List.mem_of_getElem? (i := 2) rfl) rfl
theorem w7_3 : (Cond.code yX9_turnOn prog_11_method_55_code (4 : Nat) (Option.some Jvm.ClassFile.FieldType.int)) ∈ pm_T := pm_t7 (List.mem_of_getElem? (i := 3) rfl) rfl
theorem w7_4 : (Cond.methodLink "WriterPaceLaw" (52 : Nat) yX9_pause) ∈ pm_T := pm_t7 (List.mem_of_getElem? (i := 4) rfl) rfl
theorem w7_5 : (Cond.instanceMethod yX9_pause) ∈ pm_T := pm_t7 (List.mem_of_getElem? (i := 5) rfl) rfl
theorem w7_6 : (Cond.selects "WriterPaceModel" yX9_pause yX9_pause) ∈ pm_T := pm_t7 (List.mem_of_getElem? (i := 6) rfl) rfl
theorem w7_7 : (Cond.code yX9_pause prog_11_method_71_code (3 : Nat) (Option.some Jvm.ClassFile.FieldType.int)) ∈ pm_T := pm_t7 (List.mem_of_getElem? (i := 7) rfl) rfl
theorem w7_8 : (Cond.constantLong "WriterPaceModel" (325 : Nat) (99 : Int64)) ∈ pm_T := pm_t7 (List.mem_of_getElem? (i := 8) rfl) rfl
theorem w7_9 : (Cond.methodLink "WriterPaceModel" (270 : Nat) yX9_freeNow) ∈ pm_T := pm_t7 (List.mem_of_getElem? (i := 9) rfl) rfl
theorem w7_11 : (Cond.instanceMethod yX9_freeNow) ∈ pm_T := pm_t7 (List.mem_of_getElem? (i := 11) rfl) rfl
theorem w7_12 : (Cond.code yX9_freeNow prog_11_method_58_code (1 : Nat) (Option.some Jvm.ClassFile.FieldType.int)) ∈ pm_T := pm_t7 (List.mem_of_getElem? (i := 12) rfl) rfl
theorem w7_13 : (Cond.methodLink "WriterPaceModel" (288 : Nat) yX9_pauseOf) ∈ pm_T := pm_t7 (List.mem_of_getElem? (i := 13) rfl) rfl
theorem w7_15 : (Cond.instanceMethod yX9_pauseOf) ∈ pm_T := pm_t7 (List.mem_of_getElem? (i := 15) rfl) rfl
theorem w7_16 : (Cond.code yX9_pauseOf prog_11_method_61_code (20 : Nat) (Option.some Jvm.ClassFile.FieldType.int)) ∈ pm_T := pm_t7 (List.mem_of_getElem? (i := 16) rfl) rfl
theorem w7_17 : (Cond.methodLink "WriterPaceModel" (245 : Nat) yX9_deviceOf) ∈ pm_T := pm_t7 (List.mem_of_getElem? (i := 17) rfl) rfl
theorem w7_19 : (Cond.instanceMethod yX9_deviceOf) ∈ pm_T := pm_t7 (List.mem_of_getElem? (i := 19) rfl) rfl
theorem w7_20 : (Cond.code yX9_deviceOf prog_11_method_39_code (2 : Nat) (Option.some Jvm.ClassFile.FieldType.int)) ∈ pm_T := pm_t7 (List.mem_of_getElem? (i := 20) rfl) rfl
theorem w7_21 : (Cond.constantDouble "WriterPaceModel" (273 : Nat) (4611686018427387904 : UInt64)) ∈ pm_T := pm_t7 (List.mem_of_getElem? (i := 21) rfl) rfl
theorem w7_22 : (Cond.methodLink "WriterPaceModel" (275 : Nat) yX9_keptIn) ∈ pm_T := pm_t7 (List.mem_of_getElem? (i := 22) rfl) rfl
theorem w7_23 : (Cond.static yX9_keptIn) ∈ pm_T := pm_t7 (List.mem_of_getElem? (i := 23) rfl) rfl
theorem w7_24 : (Cond.code yX9_keptIn prog_11_method_60_code (6 : Nat) (Option.some Jvm.ClassFile.FieldType.double)) ∈ pm_T := pm_t7 (List.mem_of_getElem? (i := 24) rfl) rfl
theorem w7_25 : (Cond.constantDouble "WriterPaceModel" (251 : Nat) (4636737291354636288 : UInt64)) ∈ pm_T := pm_t7 (List.mem_of_getElem? (i := 25) rfl) rfl
theorem w7_26 : (Cond.methodLink "WriterPaceLaw" (56 : Nat) yX9_ticks) ∈ pm_T := pm_t7 (List.mem_of_getElem? (i := 26) rfl) rfl
theorem w7_27 : (Cond.instanceMethod yX9_ticks) ∈ pm_T := pm_t7 (List.mem_of_getElem? (i := 27) rfl) rfl
theorem w7_28 : (Cond.selects "WriterPaceModel" yX9_ticks yX9_ticks) ∈ pm_T := pm_t7 (List.mem_of_getElem? (i := 28) rfl) rfl
theorem w7_29 : (Cond.code yX9_ticks prog_11_method_76_code (3 : Nat) (Option.some Jvm.ClassFile.FieldType.int)) ∈ pm_T := pm_t7 (List.mem_of_getElem? (i := 29) rfl) rfl
theorem w7_30 : (Cond.constantLong "WriterPaceModel" (336 : Nat) (999 : Int64)) ∈ pm_T := pm_t7 (List.mem_of_getElem? (i := 30) rfl) rfl
theorem w7_31 : (Cond.methodLink "WriterPaceModel" (338 : Nat) yX9_stores) ∈ pm_T := pm_t7 (List.mem_of_getElem? (i := 31) rfl) rfl
theorem w7_33 : (Cond.instanceMethod yX9_stores) ∈ pm_T := pm_t7 (List.mem_of_getElem? (i := 33) rfl) rfl
theorem w7_34 : (Cond.code yX9_stores prog_11_method_72_code (2 : Nat) (Option.none : Option Jvm.ClassFile.FieldType)) ∈ pm_T := pm_t7 (List.mem_of_getElem? (i := 34) rfl) rfl
theorem w7_35 : (Cond.methodLink "WriterPaceModel" (341 : Nat) yX9_goesTicks) ∈ pm_T := pm_t7 (List.mem_of_getElem? (i := 35) rfl) rfl
theorem w7_37 : (Cond.instanceMethod yX9_goesTicks) ∈ pm_T := pm_t7 (List.mem_of_getElem? (i := 37) rfl) rfl
theorem w7_38 : (Cond.code yX9_goesTicks prog_11_method_75_code (3 : Nat) (Option.some Jvm.ClassFile.FieldType.int)) ∈ pm_T := pm_t7 (List.mem_of_getElem? (i := 38) rfl) rfl
theorem w7_39 : (Cond.methodLink "WriterPaceModel" (327 : Nat) yX9_wroteInAll) ∈ pm_T := pm_t7 (List.mem_of_getElem? (i := 39) rfl) rfl
theorem w7_41 : (Cond.instanceMethod yX9_wroteInAll) ∈ pm_T := pm_t7 (List.mem_of_getElem? (i := 41) rfl) rfl
theorem w7_42 : (Cond.code yX9_wroteInAll prog_11_method_65_code (1 : Nat) (Option.some Jvm.ClassFile.FieldType.int)) ∈ pm_T := pm_t7 (List.mem_of_getElem? (i := 42) rfl) rfl
theorem w7_43 : (Cond.methodLink "WriterPaceModel" (330 : Nat) yX9_ticksFor) ∈ pm_T := pm_t7 (List.mem_of_getElem? (i := 43) rfl) rfl
theorem w7_45 : (Cond.instanceMethod yX9_ticksFor) ∈ pm_T := pm_t7 (List.mem_of_getElem? (i := 45) rfl) rfl
theorem w7_46 : (Cond.code yX9_ticksFor prog_11_method_64_code (3 : Nat) (Option.none : Option Jvm.ClassFile.FieldType)) ∈ pm_T := pm_t7 (List.mem_of_getElem? (i := 46) rfl) rfl
theorem w7_47 : (Cond.methodLink "WriterPaceModel" (303 : Nat) yX9_ticksOnce) ∈ pm_T := pm_t7 (List.mem_of_getElem? (i := 47) rfl) rfl
theorem w7_49 : (Cond.instanceMethod yX9_ticksOnce) ∈ pm_T := pm_t7 (List.mem_of_getElem? (i := 49) rfl) rfl
theorem w7_50 : (Cond.code yX9_ticksOnce prog_11_method_63_code (2 : Nat) (Option.none : Option Jvm.ClassFile.FieldType)) ∈ pm_T := pm_t7 (List.mem_of_getElem? (i := 50) rfl) rfl
theorem w7_51 : (Cond.methodLink "WriterPaceModel" (291 : Nat) yX9_writesOut) ∈ pm_T := pm_t7 (List.mem_of_getElem? (i := 51) rfl) rfl
theorem w7_53 : (Cond.instanceMethod yX9_writesOut) ∈ pm_T := pm_t7 (List.mem_of_getElem? (i := 53) rfl) rfl
theorem w7_54 : (Cond.code yX9_writesOut prog_11_method_51_code (2 : Nat) (Option.none : Option Jvm.ClassFile.FieldType)) ∈ pm_T := pm_t7 (List.mem_of_getElem? (i := 54) rfl) rfl
theorem w7_55 : (Cond.methodLink "WriterPaceModel" (248 : Nat) yX9_speedNow) ∈ pm_T := pm_t7 (List.mem_of_getElem? (i := 55) rfl) rfl
theorem w7_57 : (Cond.instanceMethod yX9_speedNow) ∈ pm_T := pm_t7 (List.mem_of_getElem? (i := 57) rfl) rfl
theorem w7_58 : (Cond.code yX9_speedNow prog_11_method_49_code (3 : Nat) (Option.some Jvm.ClassFile.FieldType.int)) ∈ pm_T := pm_t7 (List.mem_of_getElem? (i := 58) rfl) rfl
theorem w7_59 : (Cond.methodLink "WriterPaceModel" (235 : Nat) yX9_laysWords) ∈ pm_T := pm_t7 (List.mem_of_getElem? (i := 59) rfl) rfl
theorem w7_61 : (Cond.instanceMethod yX9_laysWords) ∈ pm_T := pm_t7 (List.mem_of_getElem? (i := 61) rfl) rfl
theorem w7_62 : (Cond.code yX9_laysWords prog_11_method_48_code (4 : Nat) (Option.none : Option Jvm.ClassFile.FieldType)) ∈ pm_T := pm_t7 (List.mem_of_getElem? (i := 62) rfl) rfl
theorem w7_63 : (Cond.methodLink "WriterPaceModel" (239 : Nat) yX9_reckons) ∈ pm_T := pm_t7 (List.mem_of_getElem? (i := 63) rfl) rfl
theorem w7_65 : (Cond.instanceMethod yX9_reckons) ∈ pm_T := pm_t7 (List.mem_of_getElem? (i := 65) rfl) rfl
theorem w7_66 : (Cond.code yX9_reckons prog_11_method_41_code (5 : Nat) (Option.some Jvm.ClassFile.FieldType.int)) ∈ pm_T := pm_t7 (List.mem_of_getElem? (i := 66) rfl) rfl
theorem w7_67 : (Cond.methodLink "WriterPaceModel" (213 : Nat) yX9_between) ∈ pm_T := pm_t7 (List.mem_of_getElem? (i := 67) rfl) rfl
theorem w7_68 : (Cond.static yX9_between) ∈ pm_T := pm_t7 (List.mem_of_getElem? (i := 68) rfl) rfl
theorem w7_69 : (Cond.code yX9_between prog_11_method_40_code (5 : Nat) (Option.some Jvm.ClassFile.FieldType.int)) ∈ pm_T := pm_t7 (List.mem_of_getElem? (i := 69) rfl) rfl
theorem w7_70 : (Cond.constantLong "WriterPaceModel" (209 : Nat) (1000000 : Int64)) ∈ pm_T := pm_t7 (List.mem_of_getElem? (i := 70) rfl) rfl
theorem w7_71 : (Cond.constantLong "WriterPaceModel" (211 : Nat) (-1000000 : Int64)) ∈ pm_T := pm_t7 (List.mem_of_getElem? (i := 71) rfl) rfl
theorem w7_72 : (Cond.methodLink "WriterPaceModel" (242 : Nat) yX9_kept) ∈ pm_T := pm_t7 (List.mem_of_getElem? (i := 72) rfl) rfl
theorem w7_73 : (Cond.static yX9_kept) ∈ pm_T := pm_t7 (List.mem_of_getElem? (i := 73) rfl) rfl
theorem w7_74 : (Cond.code yX9_kept prog_11_method_42_code (3 : Nat) (Option.some Jvm.ClassFile.FieldType.int)) ∈ pm_T := pm_t7 (List.mem_of_getElem? (i := 74) rfl) rfl
theorem w7_75 : (Cond.methodLink "WriterPaceModel" (294 : Nat) yX9_estimates) ∈ pm_T := pm_t7 (List.mem_of_getElem? (i := 75) rfl) rfl
theorem w7_77 : (Cond.instanceMethod yX9_estimates) ∈ pm_T := pm_t7 (List.mem_of_getElem? (i := 77) rfl) rfl
theorem w7_78 : (Cond.code yX9_estimates prog_11_method_52_code (3 : Nat) (Option.none : Option Jvm.ClassFile.FieldType)) ∈ pm_T := pm_t7 (List.mem_of_getElem? (i := 78) rfl) rfl
theorem w7_79 : (Cond.constantDouble "WriterPaceModel" (253 : Nat) (4620693217682128896 : UInt64)) ∈ pm_T := pm_t7 (List.mem_of_getElem? (i := 79) rfl) rfl
theorem w7_80 : (Cond.methodLink "WriterPaceModel" (297 : Nat) yX9_takesUp) ∈ pm_T := pm_t7 (List.mem_of_getElem? (i := 80) rfl) rfl
theorem w7_82 : (Cond.instanceMethod yX9_takesUp) ∈ pm_T := pm_t7 (List.mem_of_getElem? (i := 82) rfl) rfl
theorem w7_83 : (Cond.code yX9_takesUp prog_11_method_57_code (6 : Nat) (Option.none : Option Jvm.ClassFile.FieldType)) ∈ pm_T := pm_t7 (List.mem_of_getElem? (i := 83) rfl) rfl
theorem w7_84 : (Cond.methodLink "WriterPaceModel" (300 : Nat) yX9_writes) ∈ pm_T := pm_t7 (List.mem_of_getElem? (i := 84) rfl) rfl
theorem w7_86 : (Cond.instanceMethod yX9_writes) ∈ pm_T := pm_t7 (List.mem_of_getElem? (i := 86) rfl) rfl
theorem w7_87 : (Cond.code yX9_writes prog_11_method_62_code (6 : Nat) (Option.none : Option Jvm.ClassFile.FieldType)) ∈ pm_T := pm_t7 (List.mem_of_getElem? (i := 87) rfl) rfl
theorem w7_88 : (Cond.methodLink "WriterPaceModel" (285 : Nat) yX9_wantsNow) ∈ pm_T := pm_t7 (List.mem_of_getElem? (i := 88) rfl) rfl
theorem w7_90 : (Cond.instanceMethod yX9_wantsNow) ∈ pm_T := pm_t7 (List.mem_of_getElem? (i := 90) rfl) rfl
theorem w7_91 : (Cond.code yX9_wantsNow prog_11_method_50_code (3 : Nat) (Option.some Jvm.ClassFile.FieldType.int)) ∈ pm_T := pm_t7 (List.mem_of_getElem? (i := 91) rfl) rfl
theorem w7_92 : (Cond.methodLink "WriterPaceModel" (333 : Nat) yX9_isSo) ∈ pm_T := pm_t7 (List.mem_of_getElem? (i := 92) rfl) rfl
theorem w7_94 : (Cond.instanceMethod yX9_isSo) ∈ pm_T := pm_t7 (List.mem_of_getElem? (i := 94) rfl) rfl
theorem w7_95 : (Cond.code yX9_isSo prog_11_method_44_code (2 : Nat) (Option.none : Option Jvm.ClassFile.FieldType)) ∈ pm_T := pm_t7 (List.mem_of_getElem? (i := 95) rfl) rfl
theorem w7_96 : (Cond.methodLink "WriterPaceModel" (344 : Nat) yX9_notes) ∈ pm_T := pm_t7 (List.mem_of_getElem? (i := 96) rfl) rfl
theorem w7_98 : (Cond.instanceMethod yX9_notes) ∈ pm_T := pm_t7 (List.mem_of_getElem? (i := 98) rfl) rfl
theorem w7_99 : (Cond.code yX9_notes prog_11_method_74_code (2 : Nat) (Option.none : Option Jvm.ClassFile.FieldType)) ∈ pm_T := pm_t7 (List.mem_of_getElem? (i := 99) rfl) rfl
theorem w7_100 : (Cond.methodLink "WriterPaceLaw" (60 : Nat) yX9_speed) ∈ pm_T := pm_t7 (List.mem_of_getElem? (i := 100) rfl) rfl
theorem w7_101 : (Cond.instanceMethod yX9_speed) ∈ pm_T := pm_t7 (List.mem_of_getElem? (i := 101) rfl) rfl
theorem w7_102 : (Cond.selects "WriterPaceModel" yX9_speed yX9_speed) ∈ pm_T := pm_t7 (List.mem_of_getElem? (i := 102) rfl) rfl
theorem w7_103 : (Cond.code yX9_speed prog_11_method_77_code (3 : Nat) (Option.some Jvm.ClassFile.FieldType.int)) ∈ pm_T := pm_t7 (List.mem_of_getElem? (i := 103) rfl) rfl
theorem w7_104 : (Cond.methodLink "WriterPaceLaw" (64 : Nat) yX9_wants) ∈ pm_T := pm_t7 (List.mem_of_getElem? (i := 104) rfl) rfl
theorem w7_105 : (Cond.instanceMethod yX9_wants) ∈ pm_T := pm_t7 (List.mem_of_getElem? (i := 105) rfl) rfl
theorem w7_106 : (Cond.selects "WriterPaceModel" yX9_wants yX9_wants) ∈ pm_T := pm_t7 (List.mem_of_getElem? (i := 106) rfl) rfl
theorem w7_107 : (Cond.code yX9_wants prog_11_method_78_code (3 : Nat) (Option.some Jvm.ClassFile.FieldType.int)) ∈ pm_T := pm_t7 (List.mem_of_getElem? (i := 107) rfl) rfl
theorem w7_108 : (Cond.methodLink "WriterPaceLaw" (68 : Nat) yX9_undo) ∈ pm_T := pm_t7 (List.mem_of_getElem? (i := 108) rfl) rfl
theorem w7_109 : (Cond.instanceMethod yX9_undo) ∈ pm_T := pm_t7 (List.mem_of_getElem? (i := 109) rfl) rfl
theorem w7_110 : (Cond.selects "WriterPaceModel" yX9_undo yX9_undo) ∈ pm_T := pm_t7 (List.mem_of_getElem? (i := 110) rfl) rfl
theorem w7_111 : (Cond.code yX9_undo prog_11_method_79_code (3 : Nat) (Option.some Jvm.ClassFile.FieldType.int)) ∈ pm_T := pm_t7 (List.mem_of_getElem? (i := 111) rfl) rfl
theorem w7_112 : (Cond.constantLong "WriterPaceModel" (347 : Nat) (10 : Int64)) ∈ pm_T := pm_t7 (List.mem_of_getElem? (i := 112) rfl) rfl
theorem w7_113 : (Cond.methodLink "WriterPaceLaw" (72 : Nat) yX9_judge) ∈ pm_T := pm_t7 (List.mem_of_getElem? (i := 113) rfl) rfl
theorem w7_114 : (Cond.instanceMethod yX9_judge) ∈ pm_T := pm_t7 (List.mem_of_getElem? (i := 114) rfl) rfl
theorem w7_115 : (Cond.selects "WriterPaceModel" yX9_judge yX9_judge) ∈ pm_T := pm_t7 (List.mem_of_getElem? (i := 115) rfl) rfl
theorem w7_116 : (Cond.code yX9_judge prog_11_method_84_code (7 : Nat) (Option.some Jvm.ClassFile.FieldType.int)) ∈ pm_T := pm_t7 (List.mem_of_getElem? (i := 116) rfl) rfl
theorem w7_117 : (Cond.constantLong "WriterPaceModel" (371 : Nat) (3 : Int64)) ∈ pm_T := pm_t7 (List.mem_of_getElem? (i := 117) rfl) rfl
theorem w7_118 : (Cond.methodLink "WriterPaceModel" (373 : Nat) yX9_noTray) ∈ pm_T := pm_t7 (List.mem_of_getElem? (i := 118) rfl) rfl
theorem w7_120 : (Cond.instanceMethod yX9_noTray) ∈ pm_T := pm_t7 (List.mem_of_getElem? (i := 120) rfl) rfl
theorem w7_121 : (Cond.code yX9_noTray prog_11_method_83_code (2 : Nat) (Option.some Jvm.ClassFile.FieldType.int)) ∈ pm_T := pm_t7 (List.mem_of_getElem? (i := 121) rfl) rfl
theorem w7_122 : (Cond.methodLink "WriterPaceModel" (376 : Nat) yX9_tells) ∈ pm_T := pm_t7 (List.mem_of_getElem? (i := 122) rfl) rfl
theorem w7_124 : (Cond.instanceMethod yX9_tells) ∈ pm_T := pm_t7 (List.mem_of_getElem? (i := 124) rfl) rfl
theorem w7_125 : (Cond.code yX9_tells prog_11_method_82_code (3 : Nat) (Option.some Jvm.ClassFile.FieldType.int)) ∈ pm_T := pm_t7 (List.mem_of_getElem? (i := 125) rfl) rfl
theorem w7_126 : (Cond.methodLink "WriterPaceModel" (364 : Nat) yX9_whyNot) ∈ pm_T := pm_t7 (List.mem_of_getElem? (i := 126) rfl) rfl
theorem w7_128 : (Cond.instanceMethod yX9_whyNot) ∈ pm_T := pm_t7 (List.mem_of_getElem? (i := 128) rfl) rfl
theorem w7_129 : (Cond.code yX9_whyNot prog_11_method_80_code (3 : Nat) (Option.some Jvm.ClassFile.FieldType.int)) ∈ pm_T := pm_t7 (List.mem_of_getElem? (i := 129) rfl) rfl
theorem w7_130 : (Cond.constantLong "WriterPaceModel" (349 : Nat) (10000 : Int64)) ∈ pm_T := pm_t7 (List.mem_of_getElem? (i := 130) rfl) rfl
theorem w7_131 : (Cond.constantLong "WriterPaceModel" (351 : Nat) (13999 : Int64)) ∈ pm_T := pm_t7 (List.mem_of_getElem? (i := 131) rfl) rfl
theorem w7_132 : (Cond.constantLong "WriterPaceModel" (353 : Nat) (1000 : Int64)) ∈ pm_T := pm_t7 (List.mem_of_getElem? (i := 132) rfl) rfl
theorem w7_133 : (Cond.constantLong "WriterPaceModel" (355 : Nat) (20000 : Int64)) ∈ pm_T := pm_t7 (List.mem_of_getElem? (i := 133) rfl) rfl
theorem w7_134 : (Cond.constantLong "WriterPaceModel" (357 : Nat) (20599 : Int64)) ∈ pm_T := pm_t7 (List.mem_of_getElem? (i := 134) rfl) rfl
theorem w7_135 : (Cond.constantLong "WriterPaceModel" (359 : Nat) (100 : Int64)) ∈ pm_T := pm_t7 (List.mem_of_getElem? (i := 135) rfl) rfl
theorem w7_136 : (Cond.methodLink "WriterPaceModel" (368 : Nat) yX9_does) ∈ pm_T := pm_t7 (List.mem_of_getElem? (i := 136) rfl) rfl
theorem w7_138 : (Cond.instanceMethod yX9_does) ∈ pm_T := pm_t7 (List.mem_of_getElem? (i := 138) rfl) rfl
theorem w7_139 : (Cond.code yX9_does prog_11_method_81_code (2 : Nat) (Option.none : Option Jvm.ClassFile.FieldType)) ∈ pm_T := pm_t7 (List.mem_of_getElem? (i := 139) rfl) rfl
theorem w7_140 : (Cond.methodLink "WriterPaceModel" (379 : Nat) yX9_isAgain) ∈ pm_T := pm_t7 (List.mem_of_getElem? (i := 140) rfl) rfl
theorem w7_142 : (Cond.instanceMethod yX9_isAgain) ∈ pm_T := pm_t7 (List.mem_of_getElem? (i := 142) rfl) rfl
theorem w7_143 : (Cond.code yX9_isAgain prog_11_method_73_code (2 : Nat) (Option.none : Option Jvm.ClassFile.FieldType)) ∈ pm_T := pm_t7 (List.mem_of_getElem? (i := 143) rfl) rfl
theorem w7_144 : (Cond.methodLink "WriterPaceLaw" (76 : Nat) yX9_perform) ∈ pm_T := pm_t7 (List.mem_of_getElem? (i := 144) rfl) rfl
theorem w7_145 : (Cond.instanceMethod yX9_perform) ∈ pm_T := pm_t7 (List.mem_of_getElem? (i := 145) rfl) rfl
theorem w7_146 : (Cond.selects "WriterPaceModel" yX9_perform yX9_perform) ∈ pm_T := pm_t7 (List.mem_of_getElem? (i := 146) rfl) rfl
theorem w7_147 : (Cond.code yX9_perform prog_11_method_85_code (4 : Nat) (Option.some Jvm.ClassFile.FieldType.int)) ∈ pm_T := pm_t7 (List.mem_of_getElem? (i := 147) rfl) rfl
theorem w7_148 : (Cond.methodLink "WriterPaceLaw" (80 : Nat) yX9_load) ∈ pm_T := pm_t7 (List.mem_of_getElem? (i := 148) rfl) rfl
theorem w7_149 : (Cond.instanceMethod yX9_load) ∈ pm_T := pm_t7 (List.mem_of_getElem? (i := 149) rfl) rfl
theorem w7_150 : (Cond.selects "WriterPaceModel" yX9_load yX9_load) ∈ pm_T := pm_t7 (List.mem_of_getElem? (i := 150) rfl) rfl
theorem w7_151 : (Cond.code yX9_load prog_11_method_88_code (6 : Nat) (Option.some Jvm.ClassFile.FieldType.int)) ∈ pm_T := pm_t7 (List.mem_of_getElem? (i := 151) rfl) rfl
theorem w7_152 : (Cond.constantLong "WriterPaceModel" (389 : Nat) (20 : Int64)) ∈ pm_T := pm_t7 (List.mem_of_getElem? (i := 152) rfl) rfl
theorem w7_153 : (Cond.methodLink "WriterPaceModel" (391 : Nat) yX9_drawn) ∈ pm_T := pm_t7 (List.mem_of_getElem? (i := 153) rfl) rfl
theorem w7_155 : (Cond.instanceMethod yX9_drawn) ∈ pm_T := pm_t7 (List.mem_of_getElem? (i := 155) rfl) rfl
theorem w7_156 : (Cond.code yX9_drawn prog_11_method_87_code (3 : Nat) (Option.some Jvm.ClassFile.FieldType.int)) ∈ pm_T := pm_t7 (List.mem_of_getElem? (i := 156) rfl) rfl
theorem w7_157 : (Cond.methodLink "WriterPaceModel" (386 : Nat) yX9_draw) ∈ pm_T := pm_t7 (List.mem_of_getElem? (i := 157) rfl) rfl
theorem w7_159 : (Cond.instanceMethod yX9_draw) ∈ pm_T := pm_t7 (List.mem_of_getElem? (i := 159) rfl) rfl
theorem w7_160 : (Cond.code yX9_draw prog_11_method_86_code (2 : Nat) (Option.some Jvm.ClassFile.FieldType.int)) ∈ pm_T := pm_t7 (List.mem_of_getElem? (i := 160) rfl) rfl
theorem w7_161 : (Cond.constant "WriterPaceModel" (382 : Nat) (1103515245 : Int32)) ∈ pm_T := pm_t7 (List.mem_of_getElem? (i := 161) rfl) rfl
theorem w7_162 : (Cond.methodLink "WriterPaceLaw" (84 : Nat) yX9_later) ∈ pm_T := pm_t7 (List.mem_of_getElem? (i := 162) rfl) rfl
theorem w7_163 : (Cond.instanceMethod yX9_later) ∈ pm_T := pm_t7 (List.mem_of_getElem? (i := 163) rfl) rfl
theorem w7_164 : (Cond.selects "WriterPaceModel" yX9_later yX9_later) ∈ pm_T := pm_t7 (List.mem_of_getElem? (i := 164) rfl) rfl
theorem w7_165 : (Cond.code yX9_later prog_11_method_89_code (5 : Nat) (Option.some Jvm.ClassFile.FieldType.int)) ∈ pm_T := pm_t7 (List.mem_of_getElem? (i := 165) rfl) rfl
theorem w7_166 : (Cond.constantLong "WriterPaceModel" (394 : Nat) (4 : Int64)) ∈ pm_T := pm_t7 (List.mem_of_getElem? (i := 166) rfl) rfl
theorem w7_167 : (Cond.methodLink "WriterPaceLaw" (88 : Nat) yX9_passes) ∈ pm_T := pm_t7 (List.mem_of_getElem? (i := 167) rfl) rfl
theorem w7_168 : (Cond.instanceMethod yX9_passes) ∈ pm_T := pm_t7 (List.mem_of_getElem? (i := 168) rfl) rfl
theorem w7_169 : (Cond.selects "WriterPaceModel" yX9_passes yX9_passes) ∈ pm_T := pm_t7 (List.mem_of_getElem? (i := 169) rfl) rfl
theorem w7_170 : (Cond.code yX9_passes prog_11_method_90_code (3 : Nat) (Option.some Jvm.ClassFile.FieldType.int)) ∈ pm_T := pm_t7 (List.mem_of_getElem? (i := 170) rfl) rfl
theorem w7_171 : (Cond.methodLink "WriterPaceLaw" (92 : Nat) yX9_oldest) ∈ pm_T := pm_t7 (List.mem_of_getElem? (i := 171) rfl) rfl
theorem w7_172 : (Cond.instanceMethod yX9_oldest) ∈ pm_T := pm_t7 (List.mem_of_getElem? (i := 172) rfl) rfl
theorem w7_173 : (Cond.selects "WriterPaceModel" yX9_oldest yX9_oldest) ∈ pm_T := pm_t7 (List.mem_of_getElem? (i := 173) rfl) rfl
theorem w7_174 : (Cond.code yX9_oldest prog_11_method_91_code (6 : Nat) (Option.some Jvm.ClassFile.FieldType.int)) ∈ pm_T := pm_t7 (List.mem_of_getElem? (i := 174) rfl) rfl
theorem w7_175 : (Cond.methodLink "WriterPaceLaw" (97 : Nat) yX9_drains) ∈ pm_T := pm_t7 (List.mem_of_getElem? (i := 175) rfl) rfl
theorem w7_176 : (Cond.instanceMethod yX9_drains) ∈ pm_T := pm_t7 (List.mem_of_getElem? (i := 176) rfl) rfl
theorem w7_177 : (Cond.selects "WriterPaceModel" yX9_drains yX9_drains) ∈ pm_T := pm_t7 (List.mem_of_getElem? (i := 177) rfl) rfl
theorem w7_178 : (Cond.code yX9_drains prog_11_method_92_code (2 : Nat) (Option.some Jvm.ClassFile.FieldType.int)) ∈ pm_T := pm_t7 (List.mem_of_getElem? (i := 178) rfl) rfl
theorem w7_179 : (Cond.methodLink "WriterPaceLaw" (101 : Nat) yX9_written) ∈ pm_T := pm_t7 (List.mem_of_getElem? (i := 179) rfl) rfl
theorem w7_180 : (Cond.instanceMethod yX9_written) ∈ pm_T := pm_t7 (List.mem_of_getElem? (i := 180) rfl) rfl
theorem w7_181 : (Cond.selects "WriterPaceModel" yX9_written yX9_written) ∈ pm_T := pm_t7 (List.mem_of_getElem? (i := 181) rfl) rfl
theorem w7_182 : (Cond.code yX9_written prog_11_method_93_code (5 : Nat) (Option.some Jvm.ClassFile.FieldType.int)) ∈ pm_T := pm_t7 (List.mem_of_getElem? (i := 182) rfl) rfl
theorem w7_183 : (Cond.constantLong "WriterPaceModel" (396 : Nat) (9999 : Int64)) ∈ pm_T := pm_t7 (List.mem_of_getElem? (i := 183) rfl) rfl
theorem w7_184 : (Cond.methodLink "WriterPaceLaw" (105 : Nat) yX9_starved) ∈ pm_T := pm_t7 (List.mem_of_getElem? (i := 184) rfl) rfl
theorem w7_185 : (Cond.instanceMethod yX9_starved) ∈ pm_T := pm_t7 (List.mem_of_getElem? (i := 185) rfl) rfl
theorem w7_186 : (Cond.selects "WriterPaceModel" yX9_starved yX9_starved) ∈ pm_T := pm_t7 (List.mem_of_getElem? (i := 186) rfl) rfl
theorem w7_187 : (Cond.code yX9_starved prog_11_method_94_code (5 : Nat) (Option.some Jvm.ClassFile.FieldType.int)) ∈ pm_T := pm_t7 (List.mem_of_getElem? (i := 187) rfl) rfl
theorem w7_188 : (Cond.methodLink "WriterPaceLaw" (109 : Nat) yX9_fair) ∈ pm_T := pm_t7 (List.mem_of_getElem? (i := 188) rfl) rfl
theorem w7_189 : (Cond.instanceMethod yX9_fair) ∈ pm_T := pm_t7 (List.mem_of_getElem? (i := 189) rfl) rfl
theorem w7_190 : (Cond.selects "WriterPaceModel" yX9_fair yX9_fair) ∈ pm_T := pm_t7 (List.mem_of_getElem? (i := 190) rfl) rfl
theorem w7_191 : (Cond.code yX9_fair prog_11_method_97_code (11 : Nat) (Option.some Jvm.ClassFile.FieldType.long)) ∈ pm_T := pm_t7 (List.mem_of_getElem? (i := 191) rfl) rfl
theorem w7_192 : (Cond.constantLong "WriterPaceModel" (402 : Nat) (-3 : Int64)) ∈ pm_T := pm_t7 (List.mem_of_getElem? (i := 192) rfl) rfl
theorem w7_193 : (Cond.methodLink "WriterPaceModel" (404 : Nat) yX9_laysPages) ∈ pm_T := pm_t7 (List.mem_of_getElem? (i := 193) rfl) rfl
theorem w7_195 : (Cond.instanceMethod yX9_laysPages) ∈ pm_T := pm_t7 (List.mem_of_getElem? (i := 195) rfl) rfl
theorem w7_196 : (Cond.code yX9_laysPages prog_11_method_95_code (3 : Nat) (Option.none : Option Jvm.ClassFile.FieldType)) ∈ pm_T := pm_t7 (List.mem_of_getElem? (i := 196) rfl) rfl
theorem w7_197 : (Cond.constantLong "WriterPaceModel" (407 : Nat) (-1 : Int64)) ∈ pm_T := pm_t7 (List.mem_of_getElem? (i := 197) rfl) rfl
theorem w7_198 : (Cond.methodLink "WriterPaceModel" (398 : Nat) yX9_common) ∈ pm_T := pm_t7 (List.mem_of_getElem? (i := 198) rfl) rfl
theorem w7_199 : (Cond.static yX9_common) ∈ pm_T := pm_t7 (List.mem_of_getElem? (i := 199) rfl) rfl
theorem w7_200 : (Cond.code yX9_common prog_11_method_96_code (4 : Nat) (Option.some Jvm.ClassFile.FieldType.long)) ∈ pm_T := pm_t7 (List.mem_of_getElem? (i := 200) rfl) rfl
theorem w7_201 : (Cond.methodLink "WriterPaceLaw" (113 : Nat) yX9_most) ∈ pm_T := pm_t7 (List.mem_of_getElem? (i := 201) rfl) rfl
theorem w7_202 : (Cond.instanceMethod yX9_most) ∈ pm_T := pm_t7 (List.mem_of_getElem? (i := 202) rfl) rfl
theorem w7_203 : (Cond.selects "WriterPaceModel" yX9_most yX9_most) ∈ pm_T := pm_t7 (List.mem_of_getElem? (i := 203) rfl) rfl
theorem w7_204 : (Cond.code yX9_most prog_11_method_98_code (6 : Nat) (Option.some Jvm.ClassFile.FieldType.int)) ∈ pm_T := pm_t7 (List.mem_of_getElem? (i := 204) rfl) rfl
theorem w7_205 : (Cond.constantLong "WriterPaceModel" (409 : Nat) (2 : Int64)) ∈ pm_T := pm_t7 (List.mem_of_getElem? (i := 205) rfl) rfl
theorem w7_206 : (Cond.constant "WriterPaceModel" (411 : Nat) (268435456 : Int32)) ∈ pm_T := pm_t7 (List.mem_of_getElem? (i := 206) rfl) rfl
theorem w7_207 : (Cond.methodLink "WriterPaceLaw" (117 : Nat) yX9_held) ∈ pm_T := pm_t7 (List.mem_of_getElem? (i := 207) rfl) rfl
theorem w7_208 : (Cond.instanceMethod yX9_held) ∈ pm_T := pm_t7 (List.mem_of_getElem? (i := 208) rfl) rfl
theorem w7_209 : (Cond.selects "WriterPaceModel" yX9_held yX9_held) ∈ pm_T := pm_t7 (List.mem_of_getElem? (i := 209) rfl) rfl
theorem w7_210 : (Cond.code yX9_held prog_11_method_99_code (3 : Nat) (Option.some Jvm.ClassFile.FieldType.int)) ∈ pm_T := pm_t7 (List.mem_of_getElem? (i := 210) rfl) rfl
theorem w7_211 : (Cond.methodLink "WriterPaceLaw" (121 : Nat) yX9_enough) ∈ pm_T := pm_t7 (List.mem_of_getElem? (i := 211) rfl) rfl
theorem w7_212 : (Cond.instanceMethod yX9_enough) ∈ pm_T := pm_t7 (List.mem_of_getElem? (i := 212) rfl) rfl
theorem w7_213 : (Cond.selects "WriterPaceModel" yX9_enough yX9_enough) ∈ pm_T := pm_t7 (List.mem_of_getElem? (i := 213) rfl) rfl
theorem w7_214 : (Cond.code yX9_enough prog_11_method_100_code (5 : Nat) (Option.some Jvm.ClassFile.FieldType.int)) ∈ pm_T := pm_t7 (List.mem_of_getElem? (i := 214) rfl) rfl
theorem w7_215 : (Cond.methodLink "WriterPaceLaw" (125 : Nat) yX9_bears) ∈ pm_T := pm_t7 (List.mem_of_getElem? (i := 215) rfl) rfl
theorem w7_216 : (Cond.instanceMethod yX9_bears) ∈ pm_T := pm_t7 (List.mem_of_getElem? (i := 216) rfl) rfl
theorem w7_217 : (Cond.selects "WriterPaceModel" yX9_bears yX9_bears) ∈ pm_T := pm_t7 (List.mem_of_getElem? (i := 217) rfl) rfl
theorem w7_218 : (Cond.code yX9_bears prog_11_method_101_code (5 : Nat) (Option.some Jvm.ClassFile.FieldType.int)) ∈ pm_T := pm_t7 (List.mem_of_getElem? (i := 218) rfl) rfl
theorem w7_219 : (Cond.methodLink "WriterPaceLaw" (130 : Nat) yX9_speeds) ∈ pm_T := pm_t7 (List.mem_of_getElem? (i := 219) rfl) rfl
theorem w7_220 : (Cond.instanceMethod yX9_speeds) ∈ pm_T := pm_t7 (List.mem_of_getElem? (i := 220) rfl) rfl
theorem w7_221 : (Cond.selects "WriterPaceModel" yX9_speeds yX9_speeds) ∈ pm_T := pm_t7 (List.mem_of_getElem? (i := 221) rfl) rfl
theorem w7_222 : (Cond.code yX9_speeds prog_11_method_105_code (9 : Nat) (Option.some Jvm.ClassFile.FieldType.int)) ∈ pm_T := pm_t7 (List.mem_of_getElem? (i := 222) rfl) rfl
theorem w7_223 : (Cond.methodLink "WriterPaceModel" (417 : Nat) yX9_noWrote) ∈ pm_T := pm_t7 (List.mem_of_getElem? (i := 223) rfl) rfl
theorem w7_225 : (Cond.instanceMethod yX9_noWrote) ∈ pm_T := pm_t7 (List.mem_of_getElem? (i := 225) rfl) rfl
theorem w7_226 : (Cond.code yX9_noWrote prog_11_method_102_code (4 : Nat) (Option.some Jvm.ClassFile.FieldType.int)) ∈ pm_T := pm_t7 (List.mem_of_getElem? (i := 226) rfl) rfl
theorem w7_227 : (Cond.constantLong "WriterPaceModel" (412 : Nat) (8 : Int64)) ∈ pm_T := pm_t7 (List.mem_of_getElem? (i := 227) rfl) rfl
theorem w7_228 : (Cond.methodLink "WriterPaceModel" (420 : Nat) yX9_isWrote) ∈ pm_T := pm_t7 (List.mem_of_getElem? (i := 228) rfl) rfl
theorem w7_230 : (Cond.instanceMethod yX9_isWrote) ∈ pm_T := pm_t7 (List.mem_of_getElem? (i := 230) rfl) rfl
theorem w7_231 : (Cond.code yX9_isWrote prog_11_method_104_code (5 : Nat) (Option.some Jvm.ClassFile.FieldType.boolean)) ∈ pm_T := pm_t7 (List.mem_of_getElem? (i := 231) rfl) rfl
theorem w7_232 : (Cond.methodLink "WriterPaceModel" (414 : Nat) yX9_spanOf) ∈ pm_T := pm_t7 (List.mem_of_getElem? (i := 232) rfl) rfl
theorem w7_234 : (Cond.instanceMethod yX9_spanOf) ∈ pm_T := pm_t7 (List.mem_of_getElem? (i := 234) rfl) rfl
theorem w7_235 : (Cond.code yX9_spanOf prog_11_method_103_code (3 : Nat) (Option.some Jvm.ClassFile.FieldType.int)) ∈ pm_T := pm_t7 (List.mem_of_getElem? (i := 235) rfl) rfl
theorem w7_236 : (Cond.methodLink "WriterPaceLaw" (134 : Nat) yX9_busiest) ∈ pm_T := pm_t7 (List.mem_of_getElem? (i := 236) rfl) rfl
theorem w7_237 : (Cond.instanceMethod yX9_busiest) ∈ pm_T := pm_t7 (List.mem_of_getElem? (i := 237) rfl) rfl
theorem w7_238 : (Cond.selects "WriterPaceModel" yX9_busiest yX9_busiest) ∈ pm_T := pm_t7 (List.mem_of_getElem? (i := 238) rfl) rfl
theorem w7_239 : (Cond.code yX9_busiest prog_11_method_106_code (6 : Nat) (Option.some Jvm.ClassFile.FieldType.int)) ∈ pm_T := pm_t7 (List.mem_of_getElem? (i := 239) rfl) rfl
theorem w8_0 : (Cond.methodLink "WriterPaceLaw" (138 : Nat) yX9_chance) ∈ pm_T := pm_t8 (List.mem_of_getElem? (i := 0) rfl) rfl
theorem w8_1 : (Cond.instanceMethod yX9_chance) ∈ pm_T := pm_t8 (List.mem_of_getElem? (i := 1) rfl) rfl
theorem w8_2 : (Cond.selects "WriterPaceModel" yX9_chance yX9_chance) ∈ pm_T := pm_t8 (List.mem_of_getElem? (i := 2) rfl) rfl
theorem w8_3 : (Cond.code yX9_chance prog_11_method_111_code (4 : Nat) (Option.some Jvm.ClassFile.FieldType.int)) ∈ pm_T := pm_t8 (List.mem_of_getElem? (i := 3) rfl) rfl
theorem w8_4 : (Cond.methodLink "WriterPaceModel" (435 : Nat) yX9_laysLots) ∈ pm_T := pm_t8 (List.mem_of_getElem? (i := 4) rfl) rfl
theorem w8_6 : (Cond.instanceMethod yX9_laysLots) ∈ pm_T := pm_t8 (List.mem_of_getElem? (i := 6) rfl) rfl
theorem w8_7 : (Cond.code yX9_laysLots prog_11_method_108_code (3 : Nat) (Option.none : Option Jvm.ClassFile.FieldType)) ∈ pm_T := pm_t8 (List.mem_of_getElem? (i := 7) rfl) rfl
theorem w8_8 : (Cond.methodLink "WriterPaceModel" (431 : Nat) yX9_goesLots) ∈ pm_T := pm_t8 (List.mem_of_getElem? (i := 8) rfl) rfl
theorem w8_10 : (Cond.instanceMethod yX9_goesLots) ∈ pm_T := pm_t8 (List.mem_of_getElem? (i := 10) rfl) rfl
theorem w8_11 : (Cond.code yX9_goesLots prog_11_method_107_code (8 : Nat) (Option.none : Option Jvm.ClassFile.FieldType)) ∈ pm_T := pm_t8 (List.mem_of_getElem? (i := 11) rfl) rfl
theorem w8_12 : (Cond.methodLink "WriterPaceModel" (439 : Nat) yX9_wholeOf) ∈ pm_T := pm_t8 (List.mem_of_getElem? (i := 12) rfl) rfl
theorem w8_13 : (Cond.static yX9_wholeOf) ∈ pm_T := pm_t8 (List.mem_of_getElem? (i := 13) rfl) rfl
theorem w8_14 : (Cond.code yX9_wholeOf prog_11_method_109_code (4 : Nat) (Option.some Jvm.ClassFile.FieldType.long)) ∈ pm_T := pm_t8 (List.mem_of_getElem? (i := 14) rfl) rfl
theorem w8_15 : (Cond.methodLink "WriterPaceModel" (443 : Nat) yX9_part) ∈ pm_T := pm_t8 (List.mem_of_getElem? (i := 15) rfl) rfl
theorem w8_16 : (Cond.static yX9_part) ∈ pm_T := pm_t8 (List.mem_of_getElem? (i := 16) rfl) rfl
theorem w8_17 : (Cond.code yX9_part prog_11_method_110_code (5 : Nat) (Option.some Jvm.ClassFile.FieldType.int)) ∈ pm_T := pm_t8 (List.mem_of_getElem? (i := 17) rfl) rfl
theorem w8_18 : (Cond.methodLink "WriterPaceLaw" (142 : Nat) yX9_mean) ∈ pm_T := pm_t8 (List.mem_of_getElem? (i := 18) rfl) rfl
theorem w8_19 : (Cond.instanceMethod yX9_mean) ∈ pm_T := pm_t8 (List.mem_of_getElem? (i := 19) rfl) rfl
theorem w8_20 : (Cond.selects "WriterPaceModel" yX9_mean yX9_mean) ∈ pm_T := pm_t8 (List.mem_of_getElem? (i := 20) rfl) rfl
theorem w8_21 : (Cond.code yX9_mean prog_11_method_112_code (3 : Nat) (Option.some Jvm.ClassFile.FieldType.int)) ∈ pm_T := pm_t8 (List.mem_of_getElem? (i := 21) rfl) rfl
theorem w8_22 : (Cond.methodLink "WriterPaceLaw" (146 : Nat) yX9_numbers) ∈ pm_T := pm_t8 (List.mem_of_getElem? (i := 22) rfl) rfl
theorem w8_23 : (Cond.instanceMethod yX9_numbers) ∈ pm_T := pm_t8 (List.mem_of_getElem? (i := 23) rfl) rfl
theorem w8_24 : (Cond.selects "WriterPaceModel" yX9_numbers yX9_numbers) ∈ pm_T := pm_t8 (List.mem_of_getElem? (i := 24) rfl) rfl
theorem w8_25 : (Cond.code yX9_numbers prog_11_method_114_code (5 : Nat) (Option.some Jvm.ClassFile.FieldType.int)) ∈ pm_T := pm_t8 (List.mem_of_getElem? (i := 25) rfl) rfl
theorem w8_26 : (Cond.constantLong "WriterPaceModel" (447 : Nat) (40 : Int64)) ∈ pm_T := pm_t8 (List.mem_of_getElem? (i := 26) rfl) rfl
theorem w8_27 : (Cond.methodLink "WriterPaceLaw" (153 : Nat) yX9_write) ∈ pm_T := pm_t8 (List.mem_of_getElem? (i := 27) rfl) rfl
theorem w8_28 : (Cond.instanceMethod yX9_write) ∈ pm_T := pm_t8 (List.mem_of_getElem? (i := 28) rfl) rfl
theorem w8_29 : (Cond.selects "WriterPaceModel" yX9_write yX9_write) ∈ pm_T := pm_t8 (List.mem_of_getElem? (i := 29) rfl) rfl
theorem w8_30 : (Cond.code yX9_write prog_11_method_115_code (6 : Nat) (Option.some Jvm.ClassFile.FieldType.long)) ∈ pm_T := pm_t8 (List.mem_of_getElem? (i := 30) rfl) rfl
theorem w8_31 : (Cond.constantLong "WriterPaceModel" (449 : Nat) (-7 : Int64)) ∈ pm_T := pm_t8 (List.mem_of_getElem? (i := 31) rfl) rfl
theorem w8_32 : (Cond.methodLink "WriterPaceModel" (451 : Nat) yX9_cut) ∈ pm_T := pm_t8 (List.mem_of_getElem? (i := 32) rfl) rfl
theorem w8_33 : (Cond.static yX9_cut) ∈ pm_T := pm_t8 (List.mem_of_getElem? (i := 33) rfl) rfl
theorem w8_34 : (Cond.code yX9_cut prog_11_method_113_code (3 : Nat) (Option.some Jvm.ClassFile.FieldType.long)) ∈ pm_T := pm_t8 (List.mem_of_getElem? (i := 34) rfl) rfl
theorem w8_35 : (Cond.methodLink "WriterPaceLaw" (157 : Nat) yX9_lists) ∈ pm_T := pm_t8 (List.mem_of_getElem? (i := 35) rfl) rfl
theorem w8_36 : (Cond.instanceMethod yX9_lists) ∈ pm_T := pm_t8 (List.mem_of_getElem? (i := 36) rfl) rfl
theorem w8_37 : (Cond.selects "WriterPaceModel" yX9_lists yX9_lists) ∈ pm_T := pm_t8 (List.mem_of_getElem? (i := 37) rfl) rfl
theorem w8_38 : (Cond.code yX9_lists prog_11_method_116_code (5 : Nat) (Option.some Jvm.ClassFile.FieldType.int)) ∈ pm_T := pm_t8 (List.mem_of_getElem? (i := 38) rfl) rfl
theorem w8_39 : (Cond.methodLink "WriterPaceLaw" (161 : Nat) yX9_image) ∈ pm_T := pm_t8 (List.mem_of_getElem? (i := 39) rfl) rfl
theorem w8_40 : (Cond.instanceMethod yX9_image) ∈ pm_T := pm_t8 (List.mem_of_getElem? (i := 40) rfl) rfl
theorem w8_41 : (Cond.selects "WriterPaceModel" yX9_image yX9_image) ∈ pm_T := pm_t8 (List.mem_of_getElem? (i := 41) rfl) rfl
theorem w8_42 : (Cond.code yX9_image prog_11_method_117_code (3 : Nat) (Option.some Jvm.ClassFile.FieldType.int)) ∈ pm_T := pm_t8 (List.mem_of_getElem? (i := 42) rfl) rfl
theorem w8_43 : (Cond.methodLink "WriterPaceLaw" (165 : Nat) yX9_restore) ∈ pm_T := pm_t8 (List.mem_of_getElem? (i := 43) rfl) rfl
theorem w8_44 : (Cond.instanceMethod yX9_restore) ∈ pm_T := pm_t8 (List.mem_of_getElem? (i := 44) rfl) rfl
theorem w8_45 : (Cond.selects "WriterPaceModel" yX9_restore yX9_restore) ∈ pm_T := pm_t8 (List.mem_of_getElem? (i := 45) rfl) rfl
theorem w8_46 : (Cond.code yX9_restore prog_11_method_118_code (3 : Nat) (Option.some Jvm.ClassFile.FieldType.int)) ∈ pm_T := pm_t8 (List.mem_of_getElem? (i := 46) rfl) rfl
theorem w8_47 : (Cond.methodLink "WriterPaceLaw" (169 : Nat) yX9_count) ∈ pm_T := pm_t8 (List.mem_of_getElem? (i := 47) rfl) rfl
theorem w8_48 : (Cond.instanceMethod yX9_count) ∈ pm_T := pm_t8 (List.mem_of_getElem? (i := 48) rfl) rfl
theorem w8_49 : (Cond.selects "WriterPaceModel" yX9_count yX9_count) ∈ pm_T := pm_t8 (List.mem_of_getElem? (i := 49) rfl) rfl
theorem w8_50 : (Cond.code yX9_count prog_11_method_119_code (2 : Nat) (Option.some Jvm.ClassFile.FieldType.int)) ∈ pm_T := pm_t8 (List.mem_of_getElem? (i := 50) rfl) rfl
theorem w8_51 : (Cond.constantLong "WriterPaceLaw" (147 : Nat) (4294967295 : Int64)) ∈ pm_T := pm_t8 (List.mem_of_getElem? (i := 51) rfl) rfl
theorem w8_52 : (Cond.fieldLink "java/lang/String" (15 : Nat) "java/lang/String" "coder" "B") ∈ pm_T := pm_t8 (List.mem_of_getElem? (i := 52) rfl) rfl
theorem w8_53 : (Cond.fieldLink "java/lang/String" (9 : Nat) "java/lang/String" "value" "[B") ∈ pm_T := pm_t8 (List.mem_of_getElem? (i := 53) rfl) rfl
