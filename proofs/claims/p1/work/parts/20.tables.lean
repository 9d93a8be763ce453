theorem mw_37 : Jvm.Cond.fieldLink "BellMoney$Tape" (15 : Nat) "BellMoney$Tape" "size" "I" ∈ Wd := List.mem_filter.mpr ⟨List.mem_of_getElem? (i := 139) (by decide +kernel), by decide +kernel⟩
theorem mw_35 : Jvm.Cond.fieldLink "BellMoney$Tape" (9 : Nat) "BellMoney$Tape" "bytes" "[B" ∈ Wd := List.mem_filter.mpr ⟨List.mem_of_getElem? (i := 137) (by decide +kernel), by decide +kernel⟩
theorem mw_1128 : Jvm.Cond.constantLong "BellMoney" (380 : Nat) (-4000000000000000000 : Int64) ∈ Wd := List.mem_filter.mpr ⟨List.mem_of_getElem? (i := 1230) (by decide +kernel), by decide +kernel⟩
theorem mw_731 : Jvm.Cond.constantLong "BellMoney" (197 : Nat) (-2 : Int64) ∈ Wd := List.mem_filter.mpr ⟨List.mem_of_getElem? (i := 833) (by decide +kernel), by decide +kernel⟩
theorem mw_741 : Jvm.Cond.constant "BellMoney" (218 : Nat) (1000000 : Int32) ∈ Wd := List.mem_filter.mpr ⟨List.mem_of_getElem? (i := 843) (by decide +kernel), by decide +kernel⟩
theorem mw_348 : Jvm.Cond.fieldLink "BellMoney" (424 : Nat) "BellMoney$World" "kept" "Z" ∈ Wd := List.mem_filter.mpr ⟨List.mem_of_getElem? (i := 450) (by decide +kernel), by decide +kernel⟩
theorem mw_260 : Jvm.Cond.fieldLink "BellMoney" (415 : Nat) "BellMoney$Town" "frost" "I" ∈ Wd := List.mem_filter.mpr ⟨List.mem_of_getElem? (i := 362) (by decide +kernel), by decide +kernel⟩
theorem mw_290 : Jvm.Cond.fieldLink "BellMoney" (412 : Nat) "BellMoney$Town" "dues" "I" ∈ Wd := List.mem_filter.mpr ⟨List.mem_of_getElem? (i := 392) (by decide +kernel), by decide +kernel⟩
theorem mw_264 : Jvm.Cond.fieldLink "BellMoney" (409 : Nat) "BellMoney$Town" "towers" "I" ∈ Wd := List.mem_filter.mpr ⟨List.mem_of_getElem? (i := 366) (by decide +kernel), by decide +kernel⟩
theorem mw_253 : Jvm.Cond.fieldLink "BellMoney" (406 : Nat) "BellMoney$Town" "tax" "I" ∈ Wd := List.mem_filter.mpr ⟨List.mem_of_getElem? (i := 355) (by decide +kernel), by decide +kernel⟩
theorem mw_413 : Jvm.Cond.fieldLink "BellMoney" (264 : Nat) "BellMoney$Row" "full" "Z" ∈ Wd := List.mem_filter.mpr ⟨List.mem_of_getElem? (i := 515) (by decide +kernel), by decide +kernel⟩
theorem mw_359 : Jvm.Cond.fieldLink "BellMoney" (255 : Nat) "BellMoney$World" "acts" "I" ∈ Wd := List.mem_filter.mpr ⟨List.mem_of_getElem? (i := 461) (by decide +kernel), by decide +kernel⟩
theorem mw_246 : Jvm.Cond.fieldLink "BellMoney" (244 : Nat) "BellMoney$Town" "coin" "I" ∈ Wd := List.mem_filter.mpr ⟨List.mem_of_getElem? (i := 348) (by decide +kernel), by decide +kernel⟩
theorem mw_67 : Jvm.Cond.fieldLink "BellMoney" (195 : Nat) "BellMoney$State" "bells" "I" ∈ Wd := List.mem_filter.mpr ⟨List.mem_of_getElem? (i := 169) (by decide +kernel), by decide +kernel⟩
theorem mw_287 : Jvm.Cond.fieldLink "BellMoney" (160 : Nat) "BellMoney$Town" "peal" "I" ∈ Wd := List.mem_filter.mpr ⟨List.mem_of_getElem? (i := 389) (by decide +kernel), by decide +kernel⟩
theorem mw_281 : Jvm.Cond.fieldLink "BellMoney" (147 : Nat) "BellMoney$Town" "wards" "I" ∈ Wd := List.mem_filter.mpr ⟨List.mem_of_getElem? (i := 383) (by decide +kernel), by decide +kernel⟩
theorem mw_356 : Jvm.Cond.fieldLink "BellMoney" (121 : Nat) "BellMoney$World" "state" "LBellMoney$State;" ∈ Wd := List.mem_filter.mpr ⟨List.mem_of_getElem? (i := 458) (by decide +kernel), by decide +kernel⟩
theorem mw_387 : Jvm.Cond.fieldLink "BellMoney" (95 : Nat) "BellMoney$Reader" "faultPlace" "I" ∈ Wd := List.mem_filter.mpr ⟨List.mem_of_getElem? (i := 489) (by decide +kernel), by decide +kernel⟩
theorem mw_242 : Jvm.Cond.fieldLink "BellMoney" (90 : Nat) "BellMoney$Town" "lines" "I" ∈ Wd := List.mem_filter.mpr ⟨List.mem_of_getElem? (i := 344) (by decide +kernel), by decide +kernel⟩
theorem mw_385 : Jvm.Cond.fieldLink "BellMoney" (85 : Nat) "BellMoney$Reader" "fault" "I" ∈ Wd := List.mem_filter.mpr ⟨List.mem_of_getElem? (i := 487) (by decide +kernel), by decide +kernel⟩
theorem mw_38 : Jvm.Cond.fieldLink "BellMoney" (66 : Nat) "BellMoney$Tape" "size" "I" ∈ Wd := List.mem_filter.mpr ⟨List.mem_of_getElem? (i := 140) (by decide +kernel), by decide +kernel⟩
theorem mw_438 : Jvm.Cond.fieldLink "BellMoney" (61 : Nat) "BellMoney" "reader" "LBellMoney$Reader;" ∈ Wd := List.mem_filter.mpr ⟨List.mem_of_getElem? (i := 540) (by decide +kernel), by decide +kernel⟩
theorem mw_350 : Jvm.Cond.fieldLink "BellMoney" (54 : Nat) "BellMoney$World" "town" "LBellMoney$Town;" ∈ Wd := List.mem_filter.mpr ⟨List.mem_of_getElem? (i := 452) (by decide +kernel), by decide +kernel⟩
theorem mw_437 : Jvm.Cond.fieldLink "BellMoney" (49 : Nat) "BellMoney" "spare" "LBellMoney$World;" ∈ Wd := List.mem_filter.mpr ⟨List.mem_of_getElem? (i := 539) (by decide +kernel), by decide +kernel⟩
theorem mw_436 : Jvm.Cond.fieldLink "BellMoney" (45 : Nat) "BellMoney" "world" "LBellMoney$World;" ∈ Wd := List.mem_filter.mpr ⟨List.mem_of_getElem? (i := 538) (by decide +kernel), by decide +kernel⟩
theorem mw_433 : Jvm.Cond.fieldLink "BellMoney" (24 : Nat) "BellMoney" "rows" "[LBellMoney$Row;" ∈ Wd := List.mem_filter.mpr ⟨List.mem_of_getElem? (i := 535) (by decide +kernel), by decide +kernel⟩
theorem mw_432 : Jvm.Cond.fieldLink "BellMoney" (18 : Nat) "BellMoney" "images" "[LBellMoney$World;" ∈ Wd := List.mem_filter.mpr ⟨List.mem_of_getElem? (i := 534) (by decide +kernel), by decide +kernel⟩
theorem mw_431 : Jvm.Cond.fieldLink "BellMoney" (12 : Nat) "BellMoney" "tape" "LBellMoney$Tape;" ∈ Wd := List.mem_filter.mpr ⟨List.mem_of_getElem? (i := 533) (by decide +kernel), by decide +kernel⟩
theorem mw_1230 : Jvm.Cond.methodLink "BellMoney" (427 : Nat) ({ cls := "BellMoney$Row", name := "begin", desc := "(II)V" } : Jvm.MethodName) ∈ Wd := List.mem_filter.mpr ⟨List.mem_of_getElem? (i := 1332) (by decide +kernel), by decide +kernel⟩
theorem mw_1233 : Jvm.Cond.code ({ cls := "BellMoney$Row", name := "begin", desc := "(II)V" } : Jvm.MethodName) prog_7_method_2_code (3 : Nat) (Option.none : Option Jvm.ClassFile.FieldType) ∈ Wd := List.mem_filter.mpr ⟨List.mem_of_getElem? (i := 1335) (by decide +kernel), by decide +kernel⟩
theorem mw_11 : Jvm.Cond.initialized "BellMoney$Row" ∈ Wd := List.mem_filter.mpr ⟨List.mem_of_getElem? (i := 113) (by decide +kernel), by decide +kernel⟩
theorem mw_1231 : Jvm.Cond.instanceMethod ({ cls := "BellMoney$Row", name := "begin", desc := "(II)V" } : Jvm.MethodName) ∈ Wd := List.mem_filter.mpr ⟨List.mem_of_getElem? (i := 1333) (by decide +kernel), by decide +kernel⟩
theorem mw_1232 : Jvm.Cond.selects "BellMoney$Row" ({ cls := "BellMoney$Row", name := "begin", desc := "(II)V" } : Jvm.MethodName) ({ cls := "BellMoney$Row", name := "begin", desc := "(II)V" } : Jvm.MethodName) ∈ Wd := List.mem_filter.mpr ⟨List.mem_of_getElem? (i := 1334) (by decide +kernel), by decide +kernel⟩
theorem mw_1201 : Jvm.Cond.methodLink "BellMoney" (421 : Nat) ({ cls := "BellMoney$World", name := "copy", desc := "(LBellMoney$World;)V" } : Jvm.MethodName) ∈ Wd := List.mem_filter.mpr ⟨List.mem_of_getElem? (i := 1303) (by decide +kernel), by decide +kernel⟩
theorem mw_1204 : Jvm.Cond.code ({ cls := "BellMoney$World", name := "copy", desc := "(LBellMoney$World;)V" } : Jvm.MethodName) prog_11_method_5_code (3 : Nat) (Option.none : Option Jvm.ClassFile.FieldType) ∈ Wd := List.mem_filter.mpr ⟨List.mem_of_getElem? (i := 1306) (by decide +kernel), by decide +kernel⟩
theorem mw_6 : Jvm.Cond.initialized "BellMoney$World" ∈ Wd := List.mem_filter.mpr ⟨List.mem_of_getElem? (i := 108) (by decide +kernel), by decide +kernel⟩
theorem mw_1202 : Jvm.Cond.instanceMethod ({ cls := "BellMoney$World", name := "copy", desc := "(LBellMoney$World;)V" } : Jvm.MethodName) ∈ Wd := List.mem_filter.mpr ⟨List.mem_of_getElem? (i := 1304) (by decide +kernel), by decide +kernel⟩
theorem mw_1203 : Jvm.Cond.selects "BellMoney$World" ({ cls := "BellMoney$World", name := "copy", desc := "(LBellMoney$World;)V" } : Jvm.MethodName) ({ cls := "BellMoney$World", name := "copy", desc := "(LBellMoney$World;)V" } : Jvm.MethodName) ∈ Wd := List.mem_filter.mpr ⟨List.mem_of_getElem? (i := 1305) (by decide +kernel), by decide +kernel⟩
theorem mw_1193 : Jvm.Cond.methodLink "BellMoney" (418 : Nat) ({ cls := "BellMoney", name := "fullSlots", desc := "()I" } : Jvm.MethodName) ∈ Wd := List.mem_filter.mpr ⟨List.mem_of_getElem? (i := 1295) (by decide +kernel), by decide +kernel⟩
theorem mw_1196 : Jvm.Cond.code ({ cls := "BellMoney", name := "fullSlots", desc := "()I" } : Jvm.MethodName) prog_1_method_77_code (3 : Nat) (Option.some Jvm.ClassFile.FieldType.int) ∈ Wd := List.mem_filter.mpr ⟨List.mem_of_getElem? (i := 1298) (by decide +kernel), by decide +kernel⟩
theorem mw_1 : Jvm.Cond.initialized "BellMoney" ∈ Wd := List.mem_filter.mpr ⟨List.mem_of_getElem? (i := 103) (by decide +kernel), by decide +kernel⟩
theorem mw_1195 : Jvm.Cond.instanceMethod ({ cls := "BellMoney", name := "fullSlots", desc := "()I" } : Jvm.MethodName) ∈ Wd := List.mem_filter.mpr ⟨List.mem_of_getElem? (i := 1297) (by decide +kernel), by decide +kernel⟩
theorem ms_34 : Cond.selects "BellMoney" ⟨"BellMoney", "fullSlots", "()I"⟩ ⟨"BellMoney", "fullSlots", "()I"⟩ ∈ Wd := List.mem_filter.mpr ⟨List.mem_of_getElem? (i := 34) (by decide +kernel), by decide +kernel⟩
theorem mw_1124 : Jvm.Cond.methodLink "BellMoney" (377 : Nat) ({ cls := "BellMoney", name := "isComing", desc := "(I)Z" } : Jvm.MethodName) ∈ Wd := List.mem_filter.mpr ⟨List.mem_of_getElem? (i := 1226) (by decide +kernel), by decide +kernel⟩
theorem mw_1127 : Jvm.Cond.code ({ cls := "BellMoney", name := "isComing", desc := "(I)Z" } : Jvm.MethodName) prog_1_method_70_code (2 : Nat) (Option.some Jvm.ClassFile.FieldType.boolean) ∈ Wd := List.mem_filter.mpr ⟨List.mem_of_getElem? (i := 1229) (by decide +kernel), by decide +kernel⟩
theorem mw_1126 : Jvm.Cond.instanceMethod ({ cls := "BellMoney", name := "isComing", desc := "(I)Z" } : Jvm.MethodName) ∈ Wd := List.mem_filter.mpr ⟨List.mem_of_getElem? (i := 1228) (by decide +kernel), by decide +kernel⟩
theorem ms_31 : Cond.selects "BellMoney" ⟨"BellMoney", "isComing", "(I)Z"⟩ ⟨"BellMoney", "isComing", "(I)Z"⟩ ∈ Wd := List.mem_filter.mpr ⟨List.mem_of_getElem? (i := 31) (by decide +kernel), by decide +kernel⟩
theorem mw_1078 : Jvm.Cond.methodLink "BellMoney" (356 : Nat) ({ cls := "BellMoney", name := "isSum", desc := "(I)Z" } : Jvm.MethodName) ∈ Wd := List.mem_filter.mpr ⟨List.mem_of_getElem? (i := 1180) (by decide +kernel), by decide +kernel⟩
theorem mw_1081 : Jvm.Cond.code ({ cls := "BellMoney", name := "isSum", desc := "(I)Z" } : Jvm.MethodName) prog_1_method_73_code (2 : Nat) (Option.some Jvm.ClassFile.FieldType.boolean) ∈ Wd := List.mem_filter.mpr ⟨List.mem_of_getElem? (i := 1183) (by decide +kernel), by decide +kernel⟩
theorem mw_1080 : Jvm.Cond.instanceMethod ({ cls := "BellMoney", name := "isSum", desc := "(I)Z" } : Jvm.MethodName) ∈ Wd := List.mem_filter.mpr ⟨List.mem_of_getElem? (i := 1182) (by decide +kernel), by decide +kernel⟩
theorem ms_30 : Cond.selects "BellMoney" ⟨"BellMoney", "isSum", "(I)Z"⟩ ⟨"BellMoney", "isSum", "(I)Z"⟩ ∈ Wd := List.mem_filter.mpr ⟨List.mem_of_getElem? (i := 30) (by decide +kernel), by decide +kernel⟩
theorem mw_1008 : Jvm.Cond.methodLink "BellMoney" (329 : Nat) ({ cls := "BellMoney", name := "isTest", desc := "(II)Z" } : Jvm.MethodName) ∈ Wd := List.mem_filter.mpr ⟨List.mem_of_getElem? (i := 1110) (by decide +kernel), by decide +kernel⟩
theorem mw_1011 : Jvm.Cond.code ({ cls := "BellMoney", name := "isTest", desc := "(II)Z" } : Jvm.MethodName) prog_1_method_72_code (3 : Nat) (Option.some Jvm.ClassFile.FieldType.boolean) ∈ Wd := List.mem_filter.mpr ⟨List.mem_of_getElem? (i := 1113) (by decide +kernel), by decide +kernel⟩
theorem mw_1010 : Jvm.Cond.instanceMethod ({ cls := "BellMoney", name := "isTest", desc := "(II)Z" } : Jvm.MethodName) ∈ Wd := List.mem_filter.mpr ⟨List.mem_of_getElem? (i := 1112) (by decide +kernel), by decide +kernel⟩
theorem ms_26 : Cond.selects "BellMoney" ⟨"BellMoney", "isTest", "(II)Z"⟩ ⟨"BellMoney", "isTest", "(II)Z"⟩ ∈ Wd := List.mem_filter.mpr ⟨List.mem_of_getElem? (i := 26) (by decide +kernel), by decide +kernel⟩
theorem mw_986 : Jvm.Cond.methodLink "BellMoney" (321 : Nat) ({ cls := "BellMoney", name := "isCast", desc := "(III)Z" } : Jvm.MethodName) ∈ Wd := List.mem_filter.mpr ⟨List.mem_of_getElem? (i := 1088) (by decide +kernel), by decide +kernel⟩
theorem mw_989 : Jvm.Cond.code ({ cls := "BellMoney", name := "isCast", desc := "(III)Z" } : Jvm.MethodName) prog_1_method_71_code (4 : Nat) (Option.some Jvm.ClassFile.FieldType.boolean) ∈ Wd := List.mem_filter.mpr ⟨List.mem_of_getElem? (i := 1091) (by decide +kernel), by decide +kernel⟩
theorem mw_988 : Jvm.Cond.instanceMethod ({ cls := "BellMoney", name := "isCast", desc := "(III)Z" } : Jvm.MethodName) ∈ Wd := List.mem_filter.mpr ⟨List.mem_of_getElem? (i := 1090) (by decide +kernel), by decide +kernel⟩
theorem ms_25 : Cond.selects "BellMoney" ⟨"BellMoney", "isCast", "(III)Z"⟩ ⟨"BellMoney", "isCast", "(III)Z"⟩ ∈ Wd := List.mem_filter.mpr ⟨List.mem_of_getElem? (i := 25) (by decide +kernel), by decide +kernel⟩
theorem mw_839 : Jvm.Cond.methodLink "BellMoney" (261 : Nat) ({ cls := "BellMoney", name := "isSlot", desc := "(I)Z" } : Jvm.MethodName) ∈ Wd := List.mem_filter.mpr ⟨List.mem_of_getElem? (i := 941) (by decide +kernel), by decide +kernel⟩
theorem mw_841 : Jvm.Cond.code ({ cls := "BellMoney", name := "isSlot", desc := "(I)Z" } : Jvm.MethodName) prog_1_method_76_code (1 : Nat) (Option.some Jvm.ClassFile.FieldType.boolean) ∈ Wd := List.mem_filter.mpr ⟨List.mem_of_getElem? (i := 943) (by decide +kernel), by decide +kernel⟩
theorem mw_840 : Jvm.Cond.static ({ cls := "BellMoney", name := "isSlot", desc := "(I)Z" } : Jvm.MethodName) ∈ Wd := List.mem_filter.mpr ⟨List.mem_of_getElem? (i := 942) (by decide +kernel), by decide +kernel⟩
theorem mw_787 : Jvm.Cond.methodLink "BellMoney" (234 : Nat) ({ cls := "BellMoney", name := "isNote", desc := "(I)Z" } : Jvm.MethodName) ∈ Wd := List.mem_filter.mpr ⟨List.mem_of_getElem? (i := 889) (by decide +kernel), by decide +kernel⟩
theorem mw_789 : Jvm.Cond.code ({ cls := "BellMoney", name := "isNote", desc := "(I)Z" } : Jvm.MethodName) prog_1_method_74_code (1 : Nat) (Option.some Jvm.ClassFile.FieldType.boolean) ∈ Wd := List.mem_filter.mpr ⟨List.mem_of_getElem? (i := 891) (by decide +kernel), by decide +kernel⟩
theorem mw_788 : Jvm.Cond.static ({ cls := "BellMoney", name := "isNote", desc := "(I)Z" } : Jvm.MethodName) ∈ Wd := List.mem_filter.mpr ⟨List.mem_of_getElem? (i := 890) (by decide +kernel), by decide +kernel⟩
theorem mw_742 : Jvm.Cond.methodLink "BellMoney" (219 : Nat) ({ cls := "BellMoney$State", name := "priceAt", desc := "(JI)J" } : Jvm.MethodName) ∈ Wd := List.mem_filter.mpr ⟨List.mem_of_getElem? (i := 844) (by decide +kernel), by decide +kernel⟩
theorem mw_744 : Jvm.Cond.code ({ cls := "BellMoney$State", name := "priceAt", desc := "(JI)J" } : Jvm.MethodName) prog_8_method_8_code (3 : Nat) (Option.some Jvm.ClassFile.FieldType.long) ∈ Wd := List.mem_filter.mpr ⟨List.mem_of_getElem? (i := 846) (by decide +kernel), by decide +kernel⟩
theorem mw_4 : Jvm.Cond.initialized "BellMoney$State" ∈ Wd := List.mem_filter.mpr ⟨List.mem_of_getElem? (i := 106) (by decide +kernel), by decide +kernel⟩
theorem mw_743 : Jvm.Cond.static ({ cls := "BellMoney$State", name := "priceAt", desc := "(JI)J" } : Jvm.MethodName) ∈ Wd := List.mem_filter.mpr ⟨List.mem_of_getElem? (i := 845) (by decide +kernel), by decide +kernel⟩
theorem mw_723 : Jvm.Cond.methodLink "BellMoney" (192 : Nat) ({ cls := "BellMoney", name := "noTown", desc := "()Z" } : Jvm.MethodName) ∈ Wd := List.mem_filter.mpr ⟨List.mem_of_getElem? (i := 825) (by decide +kernel), by decide +kernel⟩
theorem mw_726 : Jvm.Cond.code ({ cls := "BellMoney", name := "noTown", desc := "()Z" } : Jvm.MethodName) prog_1_method_65_code (1 : Nat) (Option.some Jvm.ClassFile.FieldType.boolean) ∈ Wd := List.mem_filter.mpr ⟨List.mem_of_getElem? (i := 828) (by decide +kernel), by decide +kernel⟩
theorem mw_725 : Jvm.Cond.instanceMethod ({ cls := "BellMoney", name := "noTown", desc := "()Z" } : Jvm.MethodName) ∈ Wd := List.mem_filter.mpr ⟨List.mem_of_getElem? (i := 827) (by decide +kernel), by decide +kernel⟩
theorem ms_17 : Cond.selects "BellMoney" ⟨"BellMoney", "noTown", "()Z"⟩ ⟨"BellMoney", "noTown", "()Z"⟩ ∈ Wd := List.mem_filter.mpr ⟨List.mem_of_getElem? (i := 17) (by decide +kernel), by decide +kernel⟩
theorem mw_686 : Jvm.Cond.methodLink "BellMoney" (168 : Nat) ({ cls := "BellMoney", name := "isDue", desc := "(I)Z" } : Jvm.MethodName) ∈ Wd := List.mem_filter.mpr ⟨List.mem_of_getElem? (i := 788) (by decide +kernel), by decide +kernel⟩
theorem mw_689 : Jvm.Cond.code ({ cls := "BellMoney", name := "isDue", desc := "(I)Z" } : Jvm.MethodName) prog_1_method_69_code (2 : Nat) (Option.some Jvm.ClassFile.FieldType.boolean) ∈ Wd := List.mem_filter.mpr ⟨List.mem_of_getElem? (i := 791) (by decide +kernel), by decide +kernel⟩
theorem mw_688 : Jvm.Cond.instanceMethod ({ cls := "BellMoney", name := "isDue", desc := "(I)Z" } : Jvm.MethodName) ∈ Wd := List.mem_filter.mpr ⟨List.mem_of_getElem? (i := 790) (by decide +kernel), by decide +kernel⟩
theorem ms_16 : Cond.selects "BellMoney" ⟨"BellMoney", "isDue", "(I)Z"⟩ ⟨"BellMoney", "isDue", "(I)Z"⟩ ∈ Wd := List.mem_filter.mpr ⟨List.mem_of_getElem? (i := 16) (by decide +kernel), by decide +kernel⟩
theorem mw_676 : Jvm.Cond.methodLink "BellMoney" (163 : Nat) ({ cls := "java/lang/Integer", name := "bitCount", desc := "(I)I" } : Jvm.MethodName) ∈ Wd := List.mem_filter.mpr ⟨List.mem_of_getElem? (i := 778) (by decide +kernel), by decide +kernel⟩
theorem mw_678 : Jvm.Cond.code ({ cls := "java/lang/Integer", name := "bitCount", desc := "(I)I" } : Jvm.MethodName) prog_14_method_49_code (1 : Nat) (Option.some Jvm.ClassFile.FieldType.int) ∈ Wd := List.mem_filter.mpr ⟨List.mem_of_getElem? (i := 780) (by decide +kernel), by decide +kernel⟩
theorem mw_18 : Jvm.Cond.initialized "java/lang/Integer" ∈ Wd := List.mem_filter.mpr ⟨List.mem_of_getElem? (i := 120) (by decide +kernel), by decide +kernel⟩
theorem mw_677 : Jvm.Cond.static ({ cls := "java/lang/Integer", name := "bitCount", desc := "(I)I" } : Jvm.MethodName) ∈ Wd := List.mem_filter.mpr ⟨List.mem_of_getElem? (i := 779) (by decide +kernel), by decide +kernel⟩
theorem mw_658 : Jvm.Cond.methodLink "BellMoney" (133 : Nat) ({ cls := "BellMoney", name := "isTower", desc := "(I)Z" } : Jvm.MethodName) ∈ Wd := List.mem_filter.mpr ⟨List.mem_of_getElem? (i := 760) (by decide +kernel), by decide +kernel⟩
theorem mw_661 : Jvm.Cond.code ({ cls := "BellMoney", name := "isTower", desc := "(I)Z" } : Jvm.MethodName) prog_1_method_68_code (2 : Nat) (Option.some Jvm.ClassFile.FieldType.boolean) ∈ Wd := List.mem_filter.mpr ⟨List.mem_of_getElem? (i := 763) (by decide +kernel), by decide +kernel⟩
theorem mw_660 : Jvm.Cond.instanceMethod ({ cls := "BellMoney", name := "isTower", desc := "(I)Z" } : Jvm.MethodName) ∈ Wd := List.mem_filter.mpr ⟨List.mem_of_getElem? (i := 762) (by decide +kernel), by decide +kernel⟩
theorem ms_15 : Cond.selects "BellMoney" ⟨"BellMoney", "isTower", "(I)Z"⟩ ⟨"BellMoney", "isTower", "(I)Z"⟩ ∈ Wd := List.mem_filter.mpr ⟨List.mem_of_getElem? (i := 15) (by decide +kernel), by decide +kernel⟩
theorem mw_650 : Jvm.Cond.methodLink "BellMoney" (98 : Nat) ({ cls := "BellMoney", name := "isBell", desc := "(I)Z" } : Jvm.MethodName) ∈ Wd := List.mem_filter.mpr ⟨List.mem_of_getElem? (i := 752) (by decide +kernel), by decide +kernel⟩
theorem mw_653 : Jvm.Cond.code ({ cls := "BellMoney", name := "isBell", desc := "(I)Z" } : Jvm.MethodName) prog_1_method_66_code (2 : Nat) (Option.some Jvm.ClassFile.FieldType.boolean) ∈ Wd := List.mem_filter.mpr ⟨List.mem_of_getElem? (i := 755) (by decide +kernel), by decide +kernel⟩
theorem mw_652 : Jvm.Cond.instanceMethod ({ cls := "BellMoney", name := "isBell", desc := "(I)Z" } : Jvm.MethodName) ∈ Wd := List.mem_filter.mpr ⟨List.mem_of_getElem? (i := 754) (by decide +kernel), by decide +kernel⟩
theorem ms_14 : Cond.selects "BellMoney" ⟨"BellMoney", "isBell", "(I)Z"⟩ ⟨"BellMoney", "isBell", "(I)Z"⟩ ∈ Wd := List.mem_filter.mpr ⟨List.mem_of_getElem? (i := 14) (by decide +kernel), by decide +kernel⟩
theorem mw_634 : Jvm.Cond.methodLink "BellMoney" (88 : Nat) ({ cls := "BellMoney$World", name := "begin", desc := "()V" } : Jvm.MethodName) ∈ Wd := List.mem_filter.mpr ⟨List.mem_of_getElem? (i := 736) (by decide +kernel), by decide +kernel⟩
theorem mw_637 : Jvm.Cond.code ({ cls := "BellMoney$World", name := "begin", desc := "()V" } : Jvm.MethodName) prog_11_method_2_code (1 : Nat) (Option.none : Option Jvm.ClassFile.FieldType) ∈ Wd := List.mem_filter.mpr ⟨List.mem_of_getElem? (i := 739) (by decide +kernel), by decide +kernel⟩
theorem mw_635 : Jvm.Cond.instanceMethod ({ cls := "BellMoney$World", name := "begin", desc := "()V" } : Jvm.MethodName) ∈ Wd := List.mem_filter.mpr ⟨List.mem_of_getElem? (i := 737) (by decide +kernel), by decide +kernel⟩
theorem mw_636 : Jvm.Cond.selects "BellMoney$World" ({ cls := "BellMoney$World", name := "begin", desc := "()V" } : Jvm.MethodName) ({ cls := "BellMoney$World", name := "begin", desc := "()V" } : Jvm.MethodName) ∈ Wd := List.mem_filter.mpr ⟨List.mem_of_getElem? (i := 738) (by decide +kernel), by decide +kernel⟩
theorem mw_497 : Jvm.Cond.methodLink "BellMoney" (78 : Nat) ({ cls := "BellMoney$Reader", name := "hasMore", desc := "()Z" } : Jvm.MethodName) ∈ Wd := List.mem_filter.mpr ⟨List.mem_of_getElem? (i := 599) (by decide +kernel), by decide +kernel⟩
theorem mw_500 : Jvm.Cond.code ({ cls := "BellMoney$Reader", name := "hasMore", desc := "()Z" } : Jvm.MethodName) prog_6_method_3_code (1 : Nat) (Option.some Jvm.ClassFile.FieldType.boolean) ∈ Wd := List.mem_filter.mpr ⟨List.mem_of_getElem? (i := 602) (by decide +kernel), by decide +kernel⟩
theorem mw_10 : Jvm.Cond.initialized "BellMoney$Reader" ∈ Wd := List.mem_filter.mpr ⟨List.mem_of_getElem? (i := 112) (by decide +kernel), by decide +kernel⟩
theorem mw_498 : Jvm.Cond.instanceMethod ({ cls := "BellMoney$Reader", name := "hasMore", desc := "()Z" } : Jvm.MethodName) ∈ Wd := List.mem_filter.mpr ⟨List.mem_of_getElem? (i := 600) (by decide +kernel), by decide +kernel⟩
theorem mw_499 : Jvm.Cond.selects "BellMoney$Reader" ({ cls := "BellMoney$Reader", name := "hasMore", desc := "()Z" } : Jvm.MethodName) ({ cls := "BellMoney$Reader", name := "hasMore", desc := "()Z" } : Jvm.MethodName) ∈ Wd := List.mem_filter.mpr ⟨List.mem_of_getElem? (i := 601) (by decide +kernel), by decide +kernel⟩
theorem mw_472 : Jvm.Cond.methodLink "BellMoney" (74 : Nat) ({ cls := "BellMoney$Reader", name := "begin", desc := "(LBellMoney$Town;)V" } : Jvm.MethodName) ∈ Wd := List.mem_filter.mpr ⟨List.mem_of_getElem? (i := 574) (by decide +kernel), by decide +kernel⟩
theorem mw_475 : Jvm.Cond.code ({ cls := "BellMoney$Reader", name := "begin", desc := "(LBellMoney$Town;)V" } : Jvm.MethodName) prog_6_method_2_code (2 : Nat) (Option.none : Option Jvm.ClassFile.FieldType) ∈ Wd := List.mem_filter.mpr ⟨List.mem_of_getElem? (i := 577) (by decide +kernel), by decide +kernel⟩
theorem mw_473 : Jvm.Cond.instanceMethod ({ cls := "BellMoney$Reader", name := "begin", desc := "(LBellMoney$Town;)V" } : Jvm.MethodName) ∈ Wd := List.mem_filter.mpr ⟨List.mem_of_getElem? (i := 575) (by decide +kernel), by decide +kernel⟩
theorem mw_474 : Jvm.Cond.selects "BellMoney$Reader" ({ cls := "BellMoney$Reader", name := "begin", desc := "(LBellMoney$Town;)V" } : Jvm.MethodName) ({ cls := "BellMoney$Reader", name := "begin", desc := "(LBellMoney$Town;)V" } : Jvm.MethodName) ∈ Wd := List.mem_filter.mpr ⟨List.mem_of_getElem? (i := 576) (by decide +kernel), by decide +kernel⟩
theorem mw_460 : Jvm.Cond.methodLink "BellMoney" (70 : Nat) ({ cls := "BellMoney$Tape", name := "put", desc := "(I)V" } : Jvm.MethodName) ∈ Wd := List.mem_filter.mpr ⟨List.mem_of_getElem? (i := 562) (by decide +kernel), by decide +kernel⟩
theorem mw_463 : Jvm.Cond.code ({ cls := "BellMoney$Tape", name := "put", desc := "(I)V" } : Jvm.MethodName) prog_9_method_2_code (3 : Nat) (Option.none : Option Jvm.ClassFile.FieldType) ∈ Wd := List.mem_filter.mpr ⟨List.mem_of_getElem? (i := 565) (by decide +kernel), by decide +kernel⟩
theorem mw_2 : Jvm.Cond.initialized "BellMoney$Tape" ∈ Wd := List.mem_filter.mpr ⟨List.mem_of_getElem? (i := 104) (by decide +kernel), by decide +kernel⟩
theorem mw_461 : Jvm.Cond.instanceMethod ({ cls := "BellMoney$Tape", name := "put", desc := "(I)V" } : Jvm.MethodName) ∈ Wd := List.mem_filter.mpr ⟨List.mem_of_getElem? (i := 563) (by decide +kernel), by decide +kernel⟩
theorem mw_462 : Jvm.Cond.selects "BellMoney$Tape" ({ cls := "BellMoney$Tape", name := "put", desc := "(I)V" } : Jvm.MethodName) ({ cls := "BellMoney$Tape", name := "put", desc := "(I)V" } : Jvm.MethodName) ∈ Wd := List.mem_filter.mpr ⟨List.mem_of_getElem? (i := 564) (by decide +kernel), by decide +kernel⟩
theorem mw_1940 : Jvm.Cond.constantLong "BellMoneyModel" (473 : Nat) (-4000000000000000000 : Int64) ∈ Wd := List.mem_filter.mpr ⟨List.mem_of_getElem? (i := 2042) (by decide +kernel), by decide +kernel⟩
theorem mw_1731 : Jvm.Cond.constantLong "BellMoneyModel" (375 : Nat) (11 : Int64) ∈ Wd := List.mem_filter.mpr ⟨List.mem_of_getElem? (i := 1833) (by decide +kernel), by decide +kernel⟩
theorem mw_1730 : Jvm.Cond.constantLong "BellMoneyModel" (373 : Nat) (40 : Int64) ∈ Wd := List.mem_filter.mpr ⟨List.mem_of_getElem? (i := 1832) (by decide +kernel), by decide +kernel⟩
theorem mw_1729 : Jvm.Cond.constantLong "BellMoneyModel" (371 : Nat) (10000 : Int64) ∈ Wd := List.mem_filter.mpr ⟨List.mem_of_getElem? (i := 1831) (by decide +kernel), by decide +kernel⟩
theorem mw_1708 : Jvm.Cond.constantLong "BellMoneyModel" (362 : Nat) (9 : Int64) ∈ Wd := List.mem_filter.mpr ⟨List.mem_of_getElem? (i := 1810) (by decide +kernel), by decide +kernel⟩
theorem mw_1707 : Jvm.Cond.constantLong "BellMoneyModel" (360 : Nat) (1000000 : Int64) ∈ Wd := List.mem_filter.mpr ⟨List.mem_of_getElem? (i := 1809) (by decide +kernel), by decide +kernel⟩
theorem mw_1702 : Jvm.Cond.constantLong "BellMoneyModel" (358 : Nat) (-2 : Int64) ∈ Wd := List.mem_filter.mpr ⟨List.mem_of_getElem? (i := 1804) (by decide +kernel), by decide +kernel⟩
theorem mw_1656 : Jvm.Cond.constantLong "BellMoneyModel" (345 : Nat) (5 : Int64) ∈ Wd := List.mem_filter.mpr ⟨List.mem_of_getElem? (i := 1758) (by decide +kernel), by decide +kernel⟩
theorem mw_1637 : Jvm.Cond.constantLong "BellMoneyModel" (325 : Nat) (2 : Int64) ∈ Wd := List.mem_filter.mpr ⟨List.mem_of_getElem? (i := 1739) (by decide +kernel), by decide +kernel⟩
theorem mw_1636 : Jvm.Cond.constantLong "BellMoneyModel" (311 : Nat) (10 : Int64) ∈ Wd := List.mem_filter.mpr ⟨List.mem_of_getElem? (i := 1738) (by decide +kernel), by decide +kernel⟩
theorem mw_1415 : Jvm.Cond.constantLong "BellMoneyModel" (68 : Nat) (3 : Int64) ∈ Wd := List.mem_filter.mpr ⟨List.mem_of_getElem? (i := 1517) (by decide +kernel), by decide +kernel⟩
theorem mw_1274 : Jvm.Cond.fieldLink "BellMoneyModel" (143 : Nat) "BellMoneyModel" "fault" "I" ∈ Wd := List.mem_filter.mpr ⟨List.mem_of_getElem? (i := 1376) (by decide +kernel), by decide +kernel⟩
theorem mw_1273 : Jvm.Cond.fieldLink "BellMoneyModel" (120 : Nat) "BellMoneyModel" "badPlace" "I" ∈ Wd := List.mem_filter.mpr ⟨List.mem_of_getElem? (i := 1375) (by decide +kernel), by decide +kernel⟩
theorem mw_1272 : Jvm.Cond.fieldLink "BellMoneyModel" (117 : Nat) "BellMoneyModel" "bad" "I" ∈ Wd := List.mem_filter.mpr ⟨List.mem_of_getElem? (i := 1374) (by decide +kernel), by decide +kernel⟩
theorem mw_1268 : Jvm.Cond.fieldLink "BellMoneyModel" (106 : Nat) "BellMoneyModel" "token" "I" ∈ Wd := List.mem_filter.mpr ⟨List.mem_of_getElem? (i := 1370) (by decide +kernel), by decide +kernel⟩
theorem mw_1271 : Jvm.Cond.fieldLink "BellMoneyModel" (102 : Nat) "BellMoneyModel" "word" "J" ∈ Wd := List.mem_filter.mpr ⟨List.mem_of_getElem? (i := 1373) (by decide +kernel), by decide +kernel⟩
theorem mw_1270 : Jvm.Cond.fieldLink "BellMoneyModel" (99 : Nat) "BellMoneyModel" "value" "I" ∈ Wd := List.mem_filter.mpr ⟨List.mem_of_getElem? (i := 1372) (by decide +kernel), by decide +kernel⟩
theorem mw_1269 : Jvm.Cond.fieldLink "BellMoneyModel" (96 : Nat) "BellMoneyModel" "place" "I" ∈ Wd := List.mem_filter.mpr ⟨List.mem_of_getElem? (i := 1371) (by decide +kernel), by decide +kernel⟩
theorem mw_1267 : Jvm.Cond.fieldLink "BellMoneyModel" (89 : Nat) "BellMoneyModel" "at" "I" ∈ Wd := List.mem_filter.mpr ⟨List.mem_of_getElem? (i := 1369) (by decide +kernel), by decide +kernel⟩
theorem mw_1266 : Jvm.Cond.fieldLink "BellMoneyModel" (82 : Nat) "BellMoneyModel" "taped" "I" ∈ Wd := List.mem_filter.mpr ⟨List.mem_of_getElem? (i := 1368) (by decide +kernel), by decide +kernel⟩
theorem mw_1260 : Jvm.Cond.fieldLink "BellMoneyModel" (65 : Nat) "BellMoneyModel" "thrown" "I" ∈ Wd := List.mem_filter.mpr ⟨List.mem_of_getElem? (i := 1362) (by decide +kernel), by decide +kernel⟩
theorem mw_1283 : Jvm.Cond.fieldLink "BellMoneyModel" (52 : Nat) "BellMoneyModel" "isKept" "[Z" ∈ Wd := List.mem_filter.mpr ⟨List.mem_of_getElem? (i := 1385) (by decide +kernel), by decide +kernel⟩
theorem mw_1282 : Jvm.Cond.fieldLink "BellMoneyModel" (49 : Nat) "BellMoneyModel" "act" "[I" ∈ Wd := List.mem_filter.mpr ⟨List.mem_of_getElem? (i := 1384) (by decide +kernel), by decide +kernel⟩
theorem mw_1281 : Jvm.Cond.fieldLink "BellMoneyModel" (46 : Nat) "BellMoneyModel" "due" "[I" ∈ Wd := List.mem_filter.mpr ⟨List.mem_of_getElem? (i := 1383) (by decide +kernel), by decide +kernel⟩
theorem mw_1280 : Jvm.Cond.fieldLink "BellMoneyModel" (43 : Nat) "BellMoneyModel" "ward" "[I" ∈ Wd := List.mem_filter.mpr ⟨List.mem_of_getElem? (i := 1382) (by decide +kernel), by decide +kernel⟩
theorem mw_1279 : Jvm.Cond.fieldLink "BellMoneyModel" (40 : Nat) "BellMoneyModel" "bell" "[I" ∈ Wd := List.mem_filter.mpr ⟨List.mem_of_getElem? (i := 1381) (by decide +kernel), by decide +kernel⟩
theorem mw_1278 : Jvm.Cond.fieldLink "BellMoneyModel" (37 : Nat) "BellMoneyModel" "holds" "[I" ∈ Wd := List.mem_filter.mpr ⟨List.mem_of_getElem? (i := 1380) (by decide +kernel), by decide +kernel⟩
theorem mw_1277 : Jvm.Cond.fieldLink "BellMoneyModel" (34 : Nat) "BellMoneyModel" "has" "[I" ∈ Wd := List.mem_filter.mpr ⟨List.mem_of_getElem? (i := 1379) (by decide +kernel), by decide +kernel⟩
theorem mw_1276 : Jvm.Cond.fieldLink "BellMoneyModel" (31 : Nat) "BellMoneyModel" "lines" "[I" ∈ Wd := List.mem_filter.mpr ⟨List.mem_of_getElem? (i := 1378) (by decide +kernel), by decide +kernel⟩
theorem mw_1275 : Jvm.Cond.fieldLink "BellMoneyModel" (27 : Nat) "BellMoneyModel" "faultPlace" "I" ∈ Wd := List.mem_filter.mpr ⟨List.mem_of_getElem? (i := 1377) (by decide +kernel), by decide +kernel⟩
theorem mw_1265 : Jvm.Cond.fieldLink "BellMoneyModel" (23 : Nat) "BellMoneyModel" "tape" "[B" ∈ Wd := List.mem_filter.mpr ⟨List.mem_of_getElem? (i := 1367) (by decide +kernel), by decide +kernel⟩
theorem mw_1263 : Jvm.Cond.fieldLink "BellMoneyModel" (16 : Nat) "BellMoneyModel" "cells" "[J" ∈ Wd := List.mem_filter.mpr ⟨List.mem_of_getElem? (i := 1365) (by decide +kernel), by decide +kernel⟩
theorem mw_1262 : Jvm.Cond.fieldLink "BellMoneyModel" (13 : Nat) "BellMoneyModel" "many" "[I" ∈ Wd := List.mem_filter.mpr ⟨List.mem_of_getElem? (i := 1364) (by decide +kernel), by decide +kernel⟩
theorem mw_1261 : Jvm.Cond.fieldLink "BellMoneyModel" (7 : Nat) "BellMoneyModel" "width" "[I" ∈ Wd := List.mem_filter.mpr ⟨List.mem_of_getElem? (i := 1363) (by decide +kernel), by decide +kernel⟩
theorem mw_1936 : Jvm.Cond.methodLink "BellMoneyModel" (470 : Nat) ({ cls := "BellMoneyModel", name := "isYear", desc := "(I)Z" } : Jvm.MethodName) ∈ Wd := List.mem_filter.mpr ⟨List.mem_of_getElem? (i := 2038) (by decide +kernel), by decide +kernel⟩
theorem mw_1939 : Jvm.Cond.code ({ cls := "BellMoneyModel", name := "isYear", desc := "(I)Z" } : Jvm.MethodName) prog_13_method_127_code (2 : Nat) (Option.some Jvm.ClassFile.FieldType.boolean) ∈ Wd := List.mem_filter.mpr ⟨List.mem_of_getElem? (i := 2041) (by decide +kernel), by decide +kernel⟩
theorem mw_12 : Jvm.Cond.initialized "BellMoneyModel" ∈ Wd := List.mem_filter.mpr ⟨List.mem_of_getElem? (i := 114) (by decide +kernel), by decide +kernel⟩
theorem mw_1938 : Jvm.Cond.instanceMethod ({ cls := "BellMoneyModel", name := "isYear", desc := "(I)Z" } : Jvm.MethodName) ∈ Wd := List.mem_filter.mpr ⟨List.mem_of_getElem? (i := 2040) (by decide +kernel), by decide +kernel⟩
theorem ms_99 : Cond.selects "BellMoneyModel" ⟨"BellMoneyModel", "isYear", "(I)Z"⟩ ⟨"BellMoneyModel", "isYear", "(I)Z"⟩ ∈ Wd := List.mem_filter.mpr ⟨List.mem_of_getElem? (i := 99) (by decide +kernel), by decide +kernel⟩
theorem mw_1856 : Jvm.Cond.methodLink "BellMoneyModel" (446 : Nat) ({ cls := "BellMoneyModel", name := "isTest", desc := "(II)Z" } : Jvm.MethodName) ∈ Wd := List.mem_filter.mpr ⟨List.mem_of_getElem? (i := 1958) (by decide +kernel), by decide +kernel⟩
theorem mw_1859 : Jvm.Cond.code ({ cls := "BellMoneyModel", name := "isTest", desc := "(II)Z" } : Jvm.MethodName) prog_13_method_109_code (3 : Nat) (Option.some Jvm.ClassFile.FieldType.boolean) ∈ Wd := List.mem_filter.mpr ⟨List.mem_of_getElem? (i := 1961) (by decide +kernel), by decide +kernel⟩
theorem mw_1858 : Jvm.Cond.instanceMethod ({ cls := "BellMoneyModel", name := "isTest", desc := "(II)Z" } : Jvm.MethodName) ∈ Wd := List.mem_filter.mpr ⟨List.mem_of_getElem? (i := 1960) (by decide +kernel), by decide +kernel⟩
theorem ms_92 : Cond.selects "BellMoneyModel" ⟨"BellMoneyModel", "isTest", "(II)Z"⟩ ⟨"BellMoneyModel", "isTest", "(II)Z"⟩ ∈ Wd := List.mem_filter.mpr ⟨List.mem_of_getElem? (i := 92) (by decide +kernel), by decide +kernel⟩
theorem mw_1840 : Jvm.Cond.methodLink "BellMoneyModel" (424 : Nat) ({ cls := "BellMoneyModel", name := "isCast", desc := "(III)Z" } : Jvm.MethodName) ∈ Wd := List.mem_filter.mpr ⟨List.mem_of_getElem? (i := 1942) (by decide +kernel), by decide +kernel⟩
theorem mw_1843 : Jvm.Cond.code ({ cls := "BellMoneyModel", name := "isCast", desc := "(III)Z" } : Jvm.MethodName) prog_13_method_104_code (4 : Nat) (Option.some Jvm.ClassFile.FieldType.boolean) ∈ Wd := List.mem_filter.mpr ⟨List.mem_of_getElem? (i := 1945) (by decide +kernel), by decide +kernel⟩
theorem mw_1842 : Jvm.Cond.instanceMethod ({ cls := "BellMoneyModel", name := "isCast", desc := "(III)Z" } : Jvm.MethodName) ∈ Wd := List.mem_filter.mpr ⟨List.mem_of_getElem? (i := 1944) (by decide +kernel), by decide +kernel⟩
theorem ms_90 : Cond.selects "BellMoneyModel" ⟨"BellMoneyModel", "isCast", "(III)Z"⟩ ⟨"BellMoneyModel", "isCast", "(III)Z"⟩ ∈ Wd := List.mem_filter.mpr ⟨List.mem_of_getElem? (i := 90) (by decide +kernel), by decide +kernel⟩
theorem mw_1805 : Jvm.Cond.methodLink "BellMoneyModel" (412 : Nat) ({ cls := "BellMoneyModel", name := "isSet", desc := "(I)Z" } : Jvm.MethodName) ∈ Wd := List.mem_filter.mpr ⟨List.mem_of_getElem? (i := 1907) (by decide +kernel), by decide +kernel⟩
theorem mw_1808 : Jvm.Cond.code ({ cls := "BellMoneyModel", name := "isSet", desc := "(I)Z" } : Jvm.MethodName) prog_13_method_94_code (2 : Nat) (Option.some Jvm.ClassFile.FieldType.boolean) ∈ Wd := List.mem_filter.mpr ⟨List.mem_of_getElem? (i := 1910) (by decide +kernel), by decide +kernel⟩
theorem mw_1807 : Jvm.Cond.instanceMethod ({ cls := "BellMoneyModel", name := "isSet", desc := "(I)Z" } : Jvm.MethodName) ∈ Wd := List.mem_filter.mpr ⟨List.mem_of_getElem? (i := 1909) (by decide +kernel), by decide +kernel⟩
theorem ms_87 : Cond.selects "BellMoneyModel" ⟨"BellMoneyModel", "isSet", "(I)Z"⟩ ⟨"BellMoneyModel", "isSet", "(I)Z"⟩ ∈ Wd := List.mem_filter.mpr ⟨List.mem_of_getElem? (i := 87) (by decide +kernel), by decide +kernel⟩
theorem mw_1752 : Jvm.Cond.methodLink "BellMoneyModel" (382 : Nat) ({ cls := "BellMoneyModel", name := "whyNot", desc := "(I)I" } : Jvm.MethodName) ∈ Wd := List.mem_filter.mpr ⟨List.mem_of_getElem? (i := 1854) (by decide +kernel), by decide +kernel⟩
theorem mw_1755 : Jvm.Cond.code ({ cls := "BellMoneyModel", name := "whyNot", desc := "(I)I" } : Jvm.MethodName) prog_13_method_82_code (4 : Nat) (Option.some Jvm.ClassFile.FieldType.int) ∈ Wd := List.mem_filter.mpr ⟨List.mem_of_getElem? (i := 1857) (by decide +kernel), by decide +kernel⟩
theorem mw_1754 : Jvm.Cond.instanceMethod ({ cls := "BellMoneyModel", name := "whyNot", desc := "(I)I" } : Jvm.MethodName) ∈ Wd := List.mem_filter.mpr ⟨List.mem_of_getElem? (i := 1856) (by decide +kernel), by decide +kernel⟩
theorem ms_81 : Cond.selects "BellMoneyModel" ⟨"BellMoneyModel", "whyNot", "(I)I"⟩ ⟨"BellMoneyModel", "whyNot", "(I)I"⟩ ∈ Wd := List.mem_filter.mpr ⟨List.mem_of_getElem? (i := 81) (by decide +kernel), by decide +kernel⟩
theorem mw_1661 : Jvm.Cond.methodLink "BellMoneyModel" (347 : Nat) ({ cls := "BellMoneyModel", name := "isTower", desc := "(I)Z" } : Jvm.MethodName) ∈ Wd := List.mem_filter.mpr ⟨List.mem_of_getElem? (i := 1763) (by decide +kernel), by decide +kernel⟩
theorem mw_1664 : Jvm.Cond.code ({ cls := "BellMoneyModel", name := "isTower", desc := "(I)Z" } : Jvm.MethodName) prog_13_method_40_code (2 : Nat) (Option.some Jvm.ClassFile.FieldType.boolean) ∈ Wd := List.mem_filter.mpr ⟨List.mem_of_getElem? (i := 1766) (by decide +kernel), by decide +kernel⟩
theorem mw_1663 : Jvm.Cond.instanceMethod ({ cls := "BellMoneyModel", name := "isTower", desc := "(I)Z" } : Jvm.MethodName) ∈ Wd := List.mem_filter.mpr ⟨List.mem_of_getElem? (i := 1765) (by decide +kernel), by decide +kernel⟩
theorem ms_76 : Cond.selects "BellMoneyModel" ⟨"BellMoneyModel", "isTower", "(I)Z"⟩ ⟨"BellMoneyModel", "isTower", "(I)Z"⟩ ∈ Wd := List.mem_filter.mpr ⟨List.mem_of_getElem? (i := 76) (by decide +kernel), by decide +kernel⟩
theorem mw_1578 : Jvm.Cond.methodLink "BellMoneyModel" (342 : Nat) ({ cls := "BellMoneyModel", name := "isBell", desc := "(I)Z" } : Jvm.MethodName) ∈ Wd := List.mem_filter.mpr ⟨List.mem_of_getElem? (i := 1680) (by decide +kernel), by decide +kernel⟩
theorem mw_1581 : Jvm.Cond.code ({ cls := "BellMoneyModel", name := "isBell", desc := "(I)Z" } : Jvm.MethodName) prog_13_method_61_code (2 : Nat) (Option.some Jvm.ClassFile.FieldType.boolean) ∈ Wd := List.mem_filter.mpr ⟨List.mem_of_getElem? (i := 1683) (by decide +kernel), by decide +kernel⟩
theorem mw_1580 : Jvm.Cond.instanceMethod ({ cls := "BellMoneyModel", name := "isBell", desc := "(I)Z" } : Jvm.MethodName) ∈ Wd := List.mem_filter.mpr ⟨List.mem_of_getElem? (i := 1682) (by decide +kernel), by decide +kernel⟩
theorem ms_60 : Cond.selects "BellMoneyModel" ⟨"BellMoneyModel", "isBell", "(I)Z"⟩ ⟨"BellMoneyModel", "isBell", "(I)Z"⟩ ∈ Wd := List.mem_filter.mpr ⟨List.mem_of_getElem? (i := 60) (by decide +kernel), by decide +kernel⟩
theorem mw_1582 : Jvm.Cond.methodLink "BellMoneyModel" (336 : Nat) ({ cls := "BellMoneyModel", name := "isTown", desc := "()Z" } : Jvm.MethodName) ∈ Wd := List.mem_filter.mpr ⟨List.mem_of_getElem? (i := 1684) (by decide +kernel), by decide +kernel⟩
theorem mw_1585 : Jvm.Cond.code ({ cls := "BellMoneyModel", name := "isTown", desc := "()Z" } : Jvm.MethodName) prog_13_method_39_code (1 : Nat) (Option.some Jvm.ClassFile.FieldType.boolean) ∈ Wd := List.mem_filter.mpr ⟨List.mem_of_getElem? (i := 1687) (by decide +kernel), by decide +kernel⟩
theorem mw_1584 : Jvm.Cond.instanceMethod ({ cls := "BellMoneyModel", name := "isTown", desc := "()Z" } : Jvm.MethodName) ∈ Wd := List.mem_filter.mpr ⟨List.mem_of_getElem? (i := 1686) (by decide +kernel), by decide +kernel⟩
theorem ms_61 : Cond.selects "BellMoneyModel" ⟨"BellMoneyModel", "isTown", "()Z"⟩ ⟨"BellMoneyModel", "isTown", "()Z"⟩ ∈ Wd := List.mem_filter.mpr ⟨List.mem_of_getElem? (i := 61) (by decide +kernel), by decide +kernel⟩
theorem mw_1633 : Jvm.Cond.methodLink "BellMoneyModel" (316 : Nat) ({ cls := "BellMoneyModel", name := "priceOf", desc := "(JI)J" } : Jvm.MethodName) ∈ Wd := List.mem_filter.mpr ⟨List.mem_of_getElem? (i := 1735) (by decide +kernel), by decide +kernel⟩
theorem mw_1635 : Jvm.Cond.code ({ cls := "BellMoneyModel", name := "priceOf", desc := "(JI)J" } : Jvm.MethodName) prog_13_method_53_code (3 : Nat) (Option.some Jvm.ClassFile.FieldType.long) ∈ Wd := List.mem_filter.mpr ⟨List.mem_of_getElem? (i := 1737) (by decide +kernel), by decide +kernel⟩
theorem mw_1634 : Jvm.Cond.static ({ cls := "BellMoneyModel", name := "priceOf", desc := "(JI)J" } : Jvm.MethodName) ∈ Wd := List.mem_filter.mpr ⟨List.mem_of_getElem? (i := 1736) (by decide +kernel), by decide +kernel⟩
theorem mw_1653 : Jvm.Cond.methodLink "BellMoneyModel" (299 : Nat) ({ cls := "BellMoneyModel", name := "sizeOf", desc := "(I)I" } : Jvm.MethodName) ∈ Wd := List.mem_filter.mpr ⟨List.mem_of_getElem? (i := 1755) (by decide +kernel), by decide +kernel⟩
theorem mw_1655 : Jvm.Cond.code ({ cls := "BellMoneyModel", name := "sizeOf", desc := "(I)I" } : Jvm.MethodName) prog_13_method_42_code (3 : Nat) (Option.some Jvm.ClassFile.FieldType.int) ∈ Wd := List.mem_filter.mpr ⟨List.mem_of_getElem? (i := 1757) (by decide +kernel), by decide +kernel⟩
theorem mw_1654 : Jvm.Cond.static ({ cls := "BellMoneyModel", name := "sizeOf", desc := "(I)I" } : Jvm.MethodName) ∈ Wd := List.mem_filter.mpr ⟨List.mem_of_getElem? (i := 1756) (by decide +kernel), by decide +kernel⟩
theorem mw_1571 : Jvm.Cond.methodLink "BellMoneyModel" (242 : Nat) ({ cls := "BellMoneyModel", name := "copyRow", desc := "([IIII)V" } : Jvm.MethodName) ∈ Wd := List.mem_filter.mpr ⟨List.mem_of_getElem? (i := 1673) (by decide +kernel), by decide +kernel⟩
theorem mw_1573 : Jvm.Cond.code ({ cls := "BellMoneyModel", name := "copyRow", desc := "([IIII)V" } : Jvm.MethodName) prog_13_method_37_code (5 : Nat) (Option.none : Option Jvm.ClassFile.FieldType) ∈ Wd := List.mem_filter.mpr ⟨List.mem_of_getElem? (i := 1675) (by decide +kernel), by decide +kernel⟩
theorem mw_1572 : Jvm.Cond.static ({ cls := "BellMoneyModel", name := "copyRow", desc := "([IIII)V" } : Jvm.MethodName) ∈ Wd := List.mem_filter.mpr ⟨List.mem_of_getElem? (i := 1674) (by decide +kernel), by decide +kernel⟩
theorem mw_1567 : Jvm.Cond.methodLink "BellMoneyModel" (239 : Nat) ({ cls := "BellMoneyModel", name := "copyTown", desc := "(II)V" } : Jvm.MethodName) ∈ Wd := List.mem_filter.mpr ⟨List.mem_of_getElem? (i := 1669) (by decide +kernel), by decide +kernel⟩
theorem mw_1570 : Jvm.Cond.code ({ cls := "BellMoneyModel", name := "copyTown", desc := "(II)V" } : Jvm.MethodName) prog_13_method_38_code (3 : Nat) (Option.none : Option Jvm.ClassFile.FieldType) ∈ Wd := List.mem_filter.mpr ⟨List.mem_of_getElem? (i := 1672) (by decide +kernel), by decide +kernel⟩
theorem mw_1569 : Jvm.Cond.instanceMethod ({ cls := "BellMoneyModel", name := "copyTown", desc := "(II)V" } : Jvm.MethodName) ∈ Wd := List.mem_filter.mpr ⟨List.mem_of_getElem? (i := 1671) (by decide +kernel), by decide +kernel⟩
theorem ms_59 : Cond.selects "BellMoneyModel" ⟨"BellMoneyModel", "copyTown", "(II)V"⟩ ⟨"BellMoneyModel", "copyTown", "(II)V"⟩ ∈ Wd := List.mem_filter.mpr ⟨List.mem_of_getElem? (i := 59) (by decide +kernel), by decide +kernel⟩
theorem mw_1563 : Jvm.Cond.methodLink "BellMoneyModel" (236 : Nat) ({ cls := "BellMoneyModel", name := "isOver", desc := "()V" } : Jvm.MethodName) ∈ Wd := List.mem_filter.mpr ⟨List.mem_of_getElem? (i := 1665) (by decide +kernel), by decide +kernel⟩
theorem mw_1566 : Jvm.Cond.code ({ cls := "BellMoneyModel", name := "isOver", desc := "()V" } : Jvm.MethodName) prog_13_method_23_code (1 : Nat) (Option.none : Option Jvm.ClassFile.FieldType) ∈ Wd := List.mem_filter.mpr ⟨List.mem_of_getElem? (i := 1668) (by decide +kernel), by decide +kernel⟩
theorem mw_1565 : Jvm.Cond.instanceMethod ({ cls := "BellMoneyModel", name := "isOver", desc := "()V" } : Jvm.MethodName) ∈ Wd := List.mem_filter.mpr ⟨List.mem_of_getElem? (i := 1667) (by decide +kernel), by decide +kernel⟩
theorem ms_58 : Cond.selects "BellMoneyModel" ⟨"BellMoneyModel", "isOver", "()V"⟩ ⟨"BellMoneyModel", "isOver", "()V"⟩ ∈ Wd := List.mem_filter.mpr ⟨List.mem_of_getElem? (i := 58) (by decide +kernel), by decide +kernel⟩
theorem mw_1458 : Jvm.Cond.methodLink "BellMoneyModel" (215 : Nat) ({ cls := "BellMoneyModel", name := "begins", desc := "()V" } : Jvm.MethodName) ∈ Wd := List.mem_filter.mpr ⟨List.mem_of_getElem? (i := 1560) (by decide +kernel), by decide +kernel⟩
theorem mw_1461 : Jvm.Cond.code ({ cls := "BellMoneyModel", name := "begins", desc := "()V" } : Jvm.MethodName) prog_13_method_22_code (1 : Nat) (Option.none : Option Jvm.ClassFile.FieldType) ∈ Wd := List.mem_filter.mpr ⟨List.mem_of_getElem? (i := 1563) (by decide +kernel), by decide +kernel⟩
theorem mw_1460 : Jvm.Cond.instanceMethod ({ cls := "BellMoneyModel", name := "begins", desc := "()V" } : Jvm.MethodName) ∈ Wd := List.mem_filter.mpr ⟨List.mem_of_getElem? (i := 1562) (by decide +kernel), by decide +kernel⟩
theorem ms_38 : Cond.selects "BellMoneyModel" ⟨"BellMoneyModel", "begins", "()V"⟩ ⟨"BellMoneyModel", "begins", "()V"⟩ ∈ Wd := List.mem_filter.mpr ⟨List.mem_of_getElem? (i := 38) (by decide +kernel), by decide +kernel⟩
theorem mw_1450 : Jvm.Cond.methodLink "BellMoneyModel" (212 : Nat) ({ cls := "BellMoneyModel", name := "clears", desc := "()V" } : Jvm.MethodName) ∈ Wd := List.mem_filter.mpr ⟨List.mem_of_getElem? (i := 1552) (by decide +kernel), by decide +kernel⟩
theorem mw_1453 : Jvm.Cond.code ({ cls := "BellMoneyModel", name := "clears", desc := "()V" } : Jvm.MethodName) prog_13_method_35_code (2 : Nat) (Option.none : Option Jvm.ClassFile.FieldType) ∈ Wd := List.mem_filter.mpr ⟨List.mem_of_getElem? (i := 1555) (by decide +kernel), by decide +kernel⟩
theorem mw_1452 : Jvm.Cond.instanceMethod ({ cls := "BellMoneyModel", name := "clears", desc := "()V" } : Jvm.MethodName) ∈ Wd := List.mem_filter.mpr ⟨List.mem_of_getElem? (i := 1554) (by decide +kernel), by decide +kernel⟩
theorem ms_36 : Cond.selects "BellMoneyModel" ⟨"BellMoneyModel", "clears", "()V"⟩ ⟨"BellMoneyModel", "clears", "()V"⟩ ∈ Wd := List.mem_filter.mpr ⟨List.mem_of_getElem? (i := 36) (by decide +kernel), by decide +kernel⟩
theorem mw_1475 : Jvm.Cond.methodLink "BellMoneyModel" (172 : Nat) ({ cls := "BellMoneyModel", name := "isGood", desc := "()Z" } : Jvm.MethodName) ∈ Wd := List.mem_filter.mpr ⟨List.mem_of_getElem? (i := 1577) (by decide +kernel), by decide +kernel⟩
theorem mw_1478 : Jvm.Cond.code ({ cls := "BellMoneyModel", name := "isGood", desc := "()Z" } : Jvm.MethodName) prog_13_method_14_code (1 : Nat) (Option.some Jvm.ClassFile.FieldType.boolean) ∈ Wd := List.mem_filter.mpr ⟨List.mem_of_getElem? (i := 1580) (by decide +kernel), by decide +kernel⟩
theorem mw_1477 : Jvm.Cond.instanceMethod ({ cls := "BellMoneyModel", name := "isGood", desc := "()Z" } : Jvm.MethodName) ∈ Wd := List.mem_filter.mpr ⟨List.mem_of_getElem? (i := 1579) (by decide +kernel), by decide +kernel⟩
theorem ms_41 : Cond.selects "BellMoneyModel" ⟨"BellMoneyModel", "isGood", "()Z"⟩ ⟨"BellMoneyModel", "isGood", "()Z"⟩ ∈ Wd := List.mem_filter.mpr ⟨List.mem_of_getElem? (i := 41) (by decide +kernel), by decide +kernel⟩
theorem mw_1454 : Jvm.Cond.methodLink "BellMoneyModel" (168 : Nat) ({ cls := "BellMoneyModel", name := "tells", desc := "(II)V" } : Jvm.MethodName) ∈ Wd := List.mem_filter.mpr ⟨List.mem_of_getElem? (i := 1556) (by decide +kernel), by decide +kernel⟩
theorem mw_1457 : Jvm.Cond.code ({ cls := "BellMoneyModel", name := "tells", desc := "(II)V" } : Jvm.MethodName) prog_13_method_26_code (3 : Nat) (Option.none : Option Jvm.ClassFile.FieldType) ∈ Wd := List.mem_filter.mpr ⟨List.mem_of_getElem? (i := 1559) (by decide +kernel), by decide +kernel⟩
theorem mw_1456 : Jvm.Cond.instanceMethod ({ cls := "BellMoneyModel", name := "tells", desc := "(II)V" } : Jvm.MethodName) ∈ Wd := List.mem_filter.mpr ⟨List.mem_of_getElem? (i := 1558) (by decide +kernel), by decide +kernel⟩
theorem ms_37 : Cond.selects "BellMoneyModel" ⟨"BellMoneyModel", "tells", "(II)V"⟩ ⟨"BellMoneyModel", "tells", "(II)V"⟩ ∈ Wd := List.mem_filter.mpr ⟨List.mem_of_getElem? (i := 37) (by decide +kernel), by decide +kernel⟩
theorem mw_1462 : Jvm.Cond.methodLink "BellMoneyModel" (126 : Nat) ({ cls := "BellMoneyModel", name := "next", desc := "()V" } : Jvm.MethodName) ∈ Wd := List.mem_filter.mpr ⟨List.mem_of_getElem? (i := 1564) (by decide +kernel), by decide +kernel⟩
theorem mw_1465 : Jvm.Cond.code ({ cls := "BellMoneyModel", name := "next", desc := "()V" } : Jvm.MethodName) prog_13_method_13_code (2 : Nat) (Option.none : Option Jvm.ClassFile.FieldType) ∈ Wd := List.mem_filter.mpr ⟨List.mem_of_getElem? (i := 1567) (by decide +kernel), by decide +kernel⟩
theorem mw_1464 : Jvm.Cond.instanceMethod ({ cls := "BellMoneyModel", name := "next", desc := "()V" } : Jvm.MethodName) ∈ Wd := List.mem_filter.mpr ⟨List.mem_of_getElem? (i := 1566) (by decide +kernel), by decide +kernel⟩
theorem ms_39 : Cond.selects "BellMoneyModel" ⟨"BellMoneyModel", "next", "()V"⟩ ⟨"BellMoneyModel", "next", "()V"⟩ ∈ Wd := List.mem_filter.mpr ⟨List.mem_of_getElem? (i := 39) (by decide +kernel), by decide +kernel⟩
theorem mw_1466 : Jvm.Cond.methodLink "BellMoneyModel" (92 : Nat) ({ cls := "BellMoneyModel", name := "isByte", desc := "(III)Z" } : Jvm.MethodName) ∈ Wd := List.mem_filter.mpr ⟨List.mem_of_getElem? (i := 1568) (by decide +kernel), by decide +kernel⟩
theorem mw_1469 : Jvm.Cond.code ({ cls := "BellMoneyModel", name := "isByte", desc := "(III)Z" } : Jvm.MethodName) prog_13_method_12_code (4 : Nat) (Option.some Jvm.ClassFile.FieldType.boolean) ∈ Wd := List.mem_filter.mpr ⟨List.mem_of_getElem? (i := 1571) (by decide +kernel), by decide +kernel⟩
theorem mw_1468 : Jvm.Cond.instanceMethod ({ cls := "BellMoneyModel", name := "isByte", desc := "(III)Z" } : Jvm.MethodName) ∈ Wd := List.mem_filter.mpr ⟨List.mem_of_getElem? (i := 1570) (by decide +kernel), by decide +kernel⟩
theorem ms_40 : Cond.selects "BellMoneyModel" ⟨"BellMoneyModel", "isByte", "(III)Z"⟩ ⟨"BellMoneyModel", "isByte", "(III)Z"⟩ ∈ Wd := List.mem_filter.mpr ⟨List.mem_of_getElem? (i := 40) (by decide +kernel), by decide +kernel⟩
theorem mw_1434 : Jvm.Cond.methodLink "BellMoneyModel" (85 : Nat) ({ cls := "BellMoneyModel", name := "four", desc := "(I)V" } : Jvm.MethodName) ∈ Wd := List.mem_filter.mpr ⟨List.mem_of_getElem? (i := 1536) (by decide +kernel), by decide +kernel⟩
theorem mw_1437 : Jvm.Cond.code ({ cls := "BellMoneyModel", name := "four", desc := "(I)V" } : Jvm.MethodName) prog_13_method_10_code (3 : Nat) (Option.none : Option Jvm.ClassFile.FieldType) ∈ Wd := List.mem_filter.mpr ⟨List.mem_of_getElem? (i := 1539) (by decide +kernel), by decide +kernel⟩
theorem mw_1436 : Jvm.Cond.instanceMethod ({ cls := "BellMoneyModel", name := "four", desc := "(I)V" } : Jvm.MethodName) ∈ Wd := List.mem_filter.mpr ⟨List.mem_of_getElem? (i := 1538) (by decide +kernel), by decide +kernel⟩
theorem ms_35 : Cond.selects "BellMoneyModel" ⟨"BellMoneyModel", "four", "(I)V"⟩ ⟨"BellMoneyModel", "four", "(I)V"⟩ ∈ Wd := List.mem_filter.mpr ⟨List.mem_of_getElem? (i := 35) (by decide +kernel), by decide +kernel⟩
theorem mw_1412 : Jvm.Cond.methodLink "BellMoneyModel" (74 : Nat) ({ cls := "BellMoneyModel", name := "isSlot", desc := "(I)Z" } : Jvm.MethodName) ∈ Wd := List.mem_filter.mpr ⟨List.mem_of_getElem? (i := 1514) (by decide +kernel), by decide +kernel⟩
theorem mw_1414 : Jvm.Cond.code ({ cls := "BellMoneyModel", name := "isSlot", desc := "(I)Z" } : Jvm.MethodName) prog_13_method_4_code (1 : Nat) (Option.some Jvm.ClassFile.FieldType.boolean) ∈ Wd := List.mem_filter.mpr ⟨List.mem_of_getElem? (i := 1516) (by decide +kernel), by decide +kernel⟩
theorem mw_1413 : Jvm.Cond.static ({ cls := "BellMoneyModel", name := "isSlot", desc := "(I)Z" } : Jvm.MethodName) ∈ Wd := List.mem_filter.mpr ⟨List.mem_of_getElem? (i := 1515) (by decide +kernel), by decide +kernel⟩
theorem mw_1416 : Jvm.Cond.methodLink "BellMoneyModel" (70 : Nat) ({ cls := "BellMoneyModel", name := "in", desc := "(JJJ)Z" } : Jvm.MethodName) ∈ Wd := List.mem_filter.mpr ⟨List.mem_of_getElem? (i := 1518) (by decide +kernel), by decide +kernel⟩
theorem mw_1418 : Jvm.Cond.code ({ cls := "BellMoneyModel", name := "in", desc := "(JJJ)Z" } : Jvm.MethodName) prog_13_method_3_code (6 : Nat) (Option.some Jvm.ClassFile.FieldType.boolean) ∈ Wd := List.mem_filter.mpr ⟨List.mem_of_getElem? (i := 1520) (by decide +kernel), by decide +kernel⟩
theorem mw_1417 : Jvm.Cond.static ({ cls := "BellMoneyModel", name := "in", desc := "(JJJ)Z" } : Jvm.MethodName) ∈ Wd := List.mem_filter.mpr ⟨List.mem_of_getElem? (i := 1519) (by decide +kernel), by decide +kernel⟩
theorem mw_231 : Jvm.Cond.fieldLink "BellMoney$Law" (18 : Nat) "BellMoney$Law" "behind" "[I" ∈ Wd := List.mem_filter.mpr ⟨List.mem_of_getElem? (i := 333) (by decide +kernel), by decide +kernel⟩
theorem mw_229 : Jvm.Cond.fieldLink "BellMoney$Law" (15 : Nat) "BellMoney$Law" "least" "I" ∈ Wd := List.mem_filter.mpr ⟨List.mem_of_getElem? (i := 331) (by decide +kernel), by decide +kernel⟩
theorem mw_227 : Jvm.Cond.fieldLink "BellMoney$Law" (9 : Nat) "BellMoney$Law" "kept" "I" ∈ Wd := List.mem_filter.mpr ⟨List.mem_of_getElem? (i := 329) (by decide +kernel), by decide +kernel⟩
theorem mw_487 : Jvm.Cond.methodLink "BellMoney$Law" (22 : Nat) ({ cls := "java/util/Arrays", name := "fill", desc := "([II)V" } : Jvm.MethodName) ∈ Wd := List.mem_filter.mpr ⟨List.mem_of_getElem? (i := 589) (by decide +kernel), by decide +kernel⟩
theorem mw_482 : Jvm.Cond.code ({ cls := "java/util/Arrays", name := "fill", desc := "([II)V" } : Jvm.MethodName) prog_20_method_103_code (4 : Nat) (Option.none : Option Jvm.ClassFile.FieldType) ∈ Wd := List.mem_filter.mpr ⟨List.mem_of_getElem? (i := 584) (by decide +kernel), by decide +kernel⟩
theorem mw_13 : Jvm.Cond.initialized "java/util/Arrays" ∈ Wd := List.mem_filter.mpr ⟨List.mem_of_getElem? (i := 115) (by decide +kernel), by decide +kernel⟩
theorem mw_481 : Jvm.Cond.static ({ cls := "java/util/Arrays", name := "fill", desc := "([II)V" } : Jvm.MethodName) ∈ Wd := List.mem_filter.mpr ⟨List.mem_of_getElem? (i := 583) (by decide +kernel), by decide +kernel⟩
theorem mw_1213 : Jvm.Cond.methodLink "BellMoney$Law" (28 : Nat) ({ cls := "java/lang/System", name := "arraycopy", desc := "(Ljava/lang/Object;ILjava/lang/Object;II)V" } : Jvm.MethodName) ∈ Wd := List.mem_filter.mpr ⟨List.mem_of_getElem? (i := 1315) (by decide +kernel), by decide +kernel⟩
theorem mw_1215 : Jvm.Cond.native ({ cls := "java/lang/System", name := "arraycopy", desc := "(Ljava/lang/Object;ILjava/lang/Object;II)V" } : Jvm.MethodName) ∈ Wd := List.mem_filter.mpr ⟨List.mem_of_getElem? (i := 1317) (by decide +kernel), by decide +kernel⟩
theorem mw_1214 : Jvm.Cond.static ({ cls := "java/lang/System", name := "arraycopy", desc := "(Ljava/lang/Object;ILjava/lang/Object;II)V" } : Jvm.MethodName) ∈ Wd := List.mem_filter.mpr ⟨List.mem_of_getElem? (i := 1316) (by decide +kernel), by decide +kernel⟩
theorem mw_20 : Jvm.Cond.initialized "java/lang/System" ∈ Wd := List.mem_filter.mpr ⟨List.mem_of_getElem? (i := 122) (by decide +kernel), by decide +kernel⟩
theorem mw_300 : Jvm.Cond.fieldLink "BellMoney$Town" (74 : Nat) "BellMoney$Town" "law" "LBellMoney$Law;" ∈ Wd := List.mem_filter.mpr ⟨List.mem_of_getElem? (i := 402) (by decide +kernel), by decide +kernel⟩
theorem mw_298 : Jvm.Cond.fieldLink "BellMoney$Town" (68 : Nat) "BellMoney$Town" "duesIn" "[I" ∈ Wd := List.mem_filter.mpr ⟨List.mem_of_getElem? (i := 400) (by decide +kernel), by decide +kernel⟩
theorem mw_294 : Jvm.Cond.fieldLink "BellMoney$Town" (65 : Nat) "BellMoney$Town" "dueMuch" "[I" ∈ Wd := List.mem_filter.mpr ⟨List.mem_of_getElem? (i := 396) (by decide +kernel), by decide +kernel⟩
theorem mw_291 : Jvm.Cond.fieldLink "BellMoney$Town" (62 : Nat) "BellMoney$Town" "dueYear" "[I" ∈ Wd := List.mem_filter.mpr ⟨List.mem_of_getElem? (i := 393) (by decide +kernel), by decide +kernel⟩
theorem mw_288 : Jvm.Cond.fieldLink "BellMoney$Town" (59 : Nat) "BellMoney$Town" "dues" "I" ∈ Wd := List.mem_filter.mpr ⟨List.mem_of_getElem? (i := 390) (by decide +kernel), by decide +kernel⟩
theorem mw_285 : Jvm.Cond.fieldLink "BellMoney$Town" (56 : Nat) "BellMoney$Town" "peal" "I" ∈ Wd := List.mem_filter.mpr ⟨List.mem_of_getElem? (i := 387) (by decide +kernel), by decide +kernel⟩
theorem mw_282 : Jvm.Cond.fieldLink "BellMoney$Town" (53 : Nat) "BellMoney$Town" "listens" "[I" ∈ Wd := List.mem_filter.mpr ⟨List.mem_of_getElem? (i := 384) (by decide +kernel), by decide +kernel⟩
theorem mw_279 : Jvm.Cond.fieldLink "BellMoney$Town" (50 : Nat) "BellMoney$Town" "wards" "I" ∈ Wd := List.mem_filter.mpr ⟨List.mem_of_getElem? (i := 381) (by decide +kernel), by decide +kernel⟩
theorem mw_275 : Jvm.Cond.fieldLink "BellMoney$Town" (46 : Nat) "BellMoney$Town" "bells" "LBellMoney$Bells;" ∈ Wd := List.mem_filter.mpr ⟨List.mem_of_getElem? (i := 377) (by decide +kernel), by decide +kernel⟩
theorem mw_272 : Jvm.Cond.fieldLink "BellMoney$Town" (40 : Nat) "BellMoney$Town" "cracked" "I" ∈ Wd := List.mem_filter.mpr ⟨List.mem_of_getElem? (i := 374) (by decide +kernel), by decide +kernel⟩
theorem mw_269 : Jvm.Cond.fieldLink "BellMoney$Town" (37 : Nat) "BellMoney$Town" "told" "I" ∈ Wd := List.mem_filter.mpr ⟨List.mem_of_getElem? (i := 371) (by decide +kernel), by decide +kernel⟩
theorem mw_265 : Jvm.Cond.fieldLink "BellMoney$Town" (33 : Nat) "BellMoney$Town" "holds" "[I" ∈ Wd := List.mem_filter.mpr ⟨List.mem_of_getElem? (i := 367) (by decide +kernel), by decide +kernel⟩
theorem mw_261 : Jvm.Cond.fieldLink "BellMoney$Town" (30 : Nat) "BellMoney$Town" "towers" "I" ∈ Wd := List.mem_filter.mpr ⟨List.mem_of_getElem? (i := 363) (by decide +kernel), by decide +kernel⟩
theorem mw_257 : Jvm.Cond.fieldLink "BellMoney$Town" (27 : Nat) "BellMoney$Town" "frost" "I" ∈ Wd := List.mem_filter.mpr ⟨List.mem_of_getElem? (i := 359) (by decide +kernel), by decide +kernel⟩
theorem mw_254 : Jvm.Cond.fieldLink "BellMoney$Town" (24 : Nat) "BellMoney$Town" "trust" "I" ∈ Wd := List.mem_filter.mpr ⟨List.mem_of_getElem? (i := 356) (by decide +kernel), by decide +kernel⟩
theorem mw_250 : Jvm.Cond.fieldLink "BellMoney$Town" (21 : Nat) "BellMoney$Town" "tax" "I" ∈ Wd := List.mem_filter.mpr ⟨List.mem_of_getElem? (i := 352) (by decide +kernel), by decide +kernel⟩
theorem mw_247 : Jvm.Cond.fieldLink "BellMoney$Town" (18 : Nat) "BellMoney$Town" "purse" "I" ∈ Wd := List.mem_filter.mpr ⟨List.mem_of_getElem? (i := 349) (by decide +kernel), by decide +kernel⟩
theorem mw_243 : Jvm.Cond.fieldLink "BellMoney$Town" (15 : Nat) "BellMoney$Town" "coin" "I" ∈ Wd := List.mem_filter.mpr ⟨List.mem_of_getElem? (i := 345) (by decide +kernel), by decide +kernel⟩
theorem mw_240 : Jvm.Cond.fieldLink "BellMoney$Town" (9 : Nat) "BellMoney$Town" "lines" "I" ∈ Wd := List.mem_filter.mpr ⟨List.mem_of_getElem? (i := 342) (by decide +kernel), by decide +kernel⟩
theorem mw_1216 : Jvm.Cond.methodLink "BellMoney$Town" (91 : Nat) ({ cls := "BellMoney$Bells", name := "copy", desc := "(LBellMoney$Bells;)V" } : Jvm.MethodName) ∈ Wd := List.mem_filter.mpr ⟨List.mem_of_getElem? (i := 1318) (by decide +kernel), by decide +kernel⟩
theorem mw_1219 : Jvm.Cond.code ({ cls := "BellMoney$Bells", name := "copy", desc := "(LBellMoney$Bells;)V" } : Jvm.MethodName) prog_2_method_3_code (3 : Nat) (Option.none : Option Jvm.ClassFile.FieldType) ∈ Wd := List.mem_filter.mpr ⟨List.mem_of_getElem? (i := 1321) (by decide +kernel), by decide +kernel⟩
theorem mw_8 : Jvm.Cond.initialized "BellMoney$Bells" ∈ Wd := List.mem_filter.mpr ⟨List.mem_of_getElem? (i := 110) (by decide +kernel), by decide +kernel⟩
theorem mw_1217 : Jvm.Cond.instanceMethod ({ cls := "BellMoney$Bells", name := "copy", desc := "(LBellMoney$Bells;)V" } : Jvm.MethodName) ∈ Wd := List.mem_filter.mpr ⟨List.mem_of_getElem? (i := 1319) (by decide +kernel), by decide +kernel⟩
theorem mw_1218 : Jvm.Cond.selects "BellMoney$Bells" ({ cls := "BellMoney$Bells", name := "copy", desc := "(LBellMoney$Bells;)V" } : Jvm.MethodName) ({ cls := "BellMoney$Bells", name := "copy", desc := "(LBellMoney$Bells;)V" } : Jvm.MethodName) ∈ Wd := List.mem_filter.mpr ⟨List.mem_of_getElem? (i := 1320) (by decide +kernel), by decide +kernel⟩
theorem mw_1209 : Jvm.Cond.methodLink "BellMoney$Town" (87 : Nat) ({ cls := "BellMoney$Law", name := "copy", desc := "(LBellMoney$Law;)V" } : Jvm.MethodName) ∈ Wd := List.mem_filter.mpr ⟨List.mem_of_getElem? (i := 1311) (by decide +kernel), by decide +kernel⟩
theorem mw_1212 : Jvm.Cond.code ({ cls := "BellMoney$Law", name := "copy", desc := "(LBellMoney$Law;)V" } : Jvm.MethodName) prog_5_method_3_code (2 : Nat) (Option.none : Option Jvm.ClassFile.FieldType) ∈ Wd := List.mem_filter.mpr ⟨List.mem_of_getElem? (i := 1314) (by decide +kernel), by decide +kernel⟩
theorem mw_9 : Jvm.Cond.initialized "BellMoney$Law" ∈ Wd := List.mem_filter.mpr ⟨List.mem_of_getElem? (i := 111) (by decide +kernel), by decide +kernel⟩
theorem mw_1210 : Jvm.Cond.instanceMethod ({ cls := "BellMoney$Law", name := "copy", desc := "(LBellMoney$Law;)V" } : Jvm.MethodName) ∈ Wd := List.mem_filter.mpr ⟨List.mem_of_getElem? (i := 1312) (by decide +kernel), by decide +kernel⟩
theorem mw_1211 : Jvm.Cond.selects "BellMoney$Law" ({ cls := "BellMoney$Law", name := "copy", desc := "(LBellMoney$Law;)V" } : Jvm.MethodName) ({ cls := "BellMoney$Law", name := "copy", desc := "(LBellMoney$Law;)V" } : Jvm.MethodName) ∈ Wd := List.mem_filter.mpr ⟨List.mem_of_getElem? (i := 1313) (by decide +kernel), by decide +kernel⟩
theorem mw_483 : Jvm.Cond.methodLink "BellMoney$Town" (84 : Nat) ({ cls := "BellMoney$Law", name := "wipe", desc := "()V" } : Jvm.MethodName) ∈ Wd := List.mem_filter.mpr ⟨List.mem_of_getElem? (i := 585) (by decide +kernel), by decide +kernel⟩
theorem mw_486 : Jvm.Cond.code ({ cls := "BellMoney$Law", name := "wipe", desc := "()V" } : Jvm.MethodName) prog_5_method_2_code (1 : Nat) (Option.none : Option Jvm.ClassFile.FieldType) ∈ Wd := List.mem_filter.mpr ⟨List.mem_of_getElem? (i := 588) (by decide +kernel), by decide +kernel⟩
theorem mw_484 : Jvm.Cond.instanceMethod ({ cls := "BellMoney$Law", name := "wipe", desc := "()V" } : Jvm.MethodName) ∈ Wd := List.mem_filter.mpr ⟨List.mem_of_getElem? (i := 586) (by decide +kernel), by decide +kernel⟩
theorem mw_485 : Jvm.Cond.selects "BellMoney$Law" ({ cls := "BellMoney$Law", name := "wipe", desc := "()V" } : Jvm.MethodName) ({ cls := "BellMoney$Law", name := "wipe", desc := "()V" } : Jvm.MethodName) ∈ Wd := List.mem_filter.mpr ⟨List.mem_of_getElem? (i := 587) (by decide +kernel), by decide +kernel⟩
theorem mw_480 : Jvm.Cond.methodLink "BellMoney$Town" (78 : Nat) ({ cls := "java/util/Arrays", name := "fill", desc := "([II)V" } : Jvm.MethodName) ∈ Wd := List.mem_filter.mpr ⟨List.mem_of_getElem? (i := 582) (by decide +kernel), by decide +kernel⟩
theorem mw_1221 : Jvm.Cond.methodLink "BellMoney$Town" (94 : Nat) ({ cls := "java/lang/System", name := "arraycopy", desc := "(Ljava/lang/Object;ILjava/lang/Object;II)V" } : Jvm.MethodName) ∈ Wd := List.mem_filter.mpr ⟨List.mem_of_getElem? (i := 1323) (by decide +kernel), by decide +kernel⟩
theorem mw_39 : Jvm.Cond.fieldLink "BellMoney$Reader" (219 : Nat) "BellMoney$Tape" "size" "I" ∈ Wd := List.mem_filter.mpr ⟨List.mem_of_getElem? (i := 141) (by decide +kernel), by decide +kernel⟩
theorem mw_378 : Jvm.Cond.fieldLink "BellMoney$Reader" (37 : Nat) "BellMoney$Reader" "into" "LBellMoney$Town;" ∈ Wd := List.mem_filter.mpr ⟨List.mem_of_getElem? (i := 480) (by decide +kernel), by decide +kernel⟩
theorem mw_377 : Jvm.Cond.fieldLink "BellMoney$Reader" (33 : Nat) "BellMoney$Reader" "tape" "LBellMoney$Tape;" ∈ Wd := List.mem_filter.mpr ⟨List.mem_of_getElem? (i := 479) (by decide +kernel), by decide +kernel⟩
theorem mw_386 : Jvm.Cond.fieldLink "BellMoney$Reader" (30 : Nat) "BellMoney$Reader" "faultPlace" "I" ∈ Wd := List.mem_filter.mpr ⟨List.mem_of_getElem? (i := 488) (by decide +kernel), by decide +kernel⟩
theorem mw_384 : Jvm.Cond.fieldLink "BellMoney$Reader" (27 : Nat) "BellMoney$Reader" "fault" "I" ∈ Wd := List.mem_filter.mpr ⟨List.mem_of_getElem? (i := 486) (by decide +kernel), by decide +kernel⟩
theorem mw_383 : Jvm.Cond.fieldLink "BellMoney$Reader" (24 : Nat) "BellMoney$Reader" "placeBefore" "I" ∈ Wd := List.mem_filter.mpr ⟨List.mem_of_getElem? (i := 485) (by decide +kernel), by decide +kernel⟩
theorem mw_381 : Jvm.Cond.fieldLink "BellMoney$Reader" (18 : Nat) "BellMoney$Reader" "place" "I" ∈ Wd := List.mem_filter.mpr ⟨List.mem_of_getElem? (i := 483) (by decide +kernel), by decide +kernel⟩
theorem mw_380 : Jvm.Cond.fieldLink "BellMoney$Reader" (15 : Nat) "BellMoney$Reader" "kind" "I" ∈ Wd := List.mem_filter.mpr ⟨List.mem_of_getElem? (i := 482) (by decide +kernel), by decide +kernel⟩
theorem mw_379 : Jvm.Cond.fieldLink "BellMoney$Reader" (9 : Nat) "BellMoney$Reader" "at" "I" ∈ Wd := List.mem_filter.mpr ⟨List.mem_of_getElem? (i := 481) (by decide +kernel), by decide +kernel⟩
theorem mw_492 : Jvm.Cond.methodLink "BellMoney$Reader" (222 : Nat) ({ cls := "BellMoney$Reader", name := "kindHere", desc := "()I" } : Jvm.MethodName) ∈ Wd := List.mem_filter.mpr ⟨List.mem_of_getElem? (i := 594) (by decide +kernel), by decide +kernel⟩
theorem mw_495 : Jvm.Cond.code ({ cls := "BellMoney$Reader", name := "kindHere", desc := "()I" } : Jvm.MethodName) prog_6_method_18_code (2 : Nat) (Option.some Jvm.ClassFile.FieldType.int) ∈ Wd := List.mem_filter.mpr ⟨List.mem_of_getElem? (i := 597) (by decide +kernel), by decide +kernel⟩
theorem mw_494 : Jvm.Cond.instanceMethod ({ cls := "BellMoney$Reader", name := "kindHere", desc := "()I" } : Jvm.MethodName) ∈ Wd := List.mem_filter.mpr ⟨List.mem_of_getElem? (i := 596) (by decide +kernel), by decide +kernel⟩
theorem ms_1 : Cond.selects "BellMoney$Reader" ⟨"BellMoney$Reader", "kindHere", "()I"⟩ ⟨"BellMoney$Reader", "kindHere", "()I"⟩ ∈ Wd := List.mem_filter.mpr ⟨List.mem_of_getElem? (i := 1) (by decide +kernel), by decide +kernel⟩
theorem mw_488 : Jvm.Cond.methodLink "BellMoney$Reader" (46 : Nat) ({ cls := "BellMoney$Reader", name := "advance", desc := "()V" } : Jvm.MethodName) ∈ Wd := List.mem_filter.mpr ⟨List.mem_of_getElem? (i := 590) (by decide +kernel), by decide +kernel⟩
theorem mw_491 : Jvm.Cond.code ({ cls := "BellMoney$Reader", name := "advance", desc := "()V" } : Jvm.MethodName) prog_6_method_17_code (1 : Nat) (Option.none : Option Jvm.ClassFile.FieldType) ∈ Wd := List.mem_filter.mpr ⟨List.mem_of_getElem? (i := 593) (by decide +kernel), by decide +kernel⟩
theorem mw_490 : Jvm.Cond.instanceMethod ({ cls := "BellMoney$Reader", name := "advance", desc := "()V" } : Jvm.MethodName) ∈ Wd := List.mem_filter.mpr ⟨List.mem_of_getElem? (i := 592) (by decide +kernel), by decide +kernel⟩
theorem ms_0 : Cond.selects "BellMoney$Reader" ⟨"BellMoney$Reader", "advance", "()V"⟩ ⟨"BellMoney$Reader", "advance", "()V"⟩ ∈ Wd := List.mem_filter.mpr ⟨List.mem_of_getElem? (i := 0) (by decide +kernel), by decide +kernel⟩
theorem mw_476 : Jvm.Cond.methodLink "BellMoney$Reader" (41 : Nat) ({ cls := "BellMoney$Town", name := "wipe", desc := "()V" } : Jvm.MethodName) ∈ Wd := List.mem_filter.mpr ⟨List.mem_of_getElem? (i := 578) (by decide +kernel), by decide +kernel⟩
theorem mw_479 : Jvm.Cond.code ({ cls := "BellMoney$Town", name := "wipe", desc := "()V" } : Jvm.MethodName) prog_10_method_2_code (1 : Nat) (Option.none : Option Jvm.ClassFile.FieldType) ∈ Wd := List.mem_filter.mpr ⟨List.mem_of_getElem? (i := 581) (by decide +kernel), by decide +kernel⟩
theorem mw_7 : Jvm.Cond.initialized "BellMoney$Town" ∈ Wd := List.mem_filter.mpr ⟨List.mem_of_getElem? (i := 109) (by decide +kernel), by decide +kernel⟩
theorem mw_477 : Jvm.Cond.instanceMethod ({ cls := "BellMoney$Town", name := "wipe", desc := "()V" } : Jvm.MethodName) ∈ Wd := List.mem_filter.mpr ⟨List.mem_of_getElem? (i := 579) (by decide +kernel), by decide +kernel⟩
theorem mw_478 : Jvm.Cond.selects "BellMoney$Town" ({ cls := "BellMoney$Town", name := "wipe", desc := "()V" } : Jvm.MethodName) ({ cls := "BellMoney$Town", name := "wipe", desc := "()V" } : Jvm.MethodName) ∈ Wd := List.mem_filter.mpr ⟨List.mem_of_getElem? (i := 580) (by decide +kernel), by decide +kernel⟩
theorem mw_745 : Jvm.Cond.constantLong "BellMoney$State" (56 : Nat) (10 : Int64) ∈ Wd := List.mem_filter.mpr ⟨List.mem_of_getElem? (i := 847) (by decide +kernel), by decide +kernel⟩
theorem mw_248 : Jvm.Cond.fieldLink "BellMoney$State" (44 : Nat) "BellMoney$Town" "purse" "I" ∈ Wd := List.mem_filter.mpr ⟨List.mem_of_getElem? (i := 350) (by decide +kernel), by decide +kernel⟩
theorem mw_255 : Jvm.Cond.fieldLink "BellMoney$State" (43 : Nat) "BellMoney$Town" "trust" "I" ∈ Wd := List.mem_filter.mpr ⟨List.mem_of_getElem? (i := 357) (by decide +kernel), by decide +kernel⟩
theorem mw_273 : Jvm.Cond.fieldLink "BellMoney$State" (42 : Nat) "BellMoney$Town" "cracked" "I" ∈ Wd := List.mem_filter.mpr ⟨List.mem_of_getElem? (i := 375) (by decide +kernel), by decide +kernel⟩
theorem mw_270 : Jvm.Cond.fieldLink "BellMoney$State" (37 : Nat) "BellMoney$Town" "told" "I" ∈ Wd := List.mem_filter.mpr ⟨List.mem_of_getElem? (i := 372) (by decide +kernel), by decide +kernel⟩
theorem mw_84 : Jvm.Cond.fieldLink "BellMoney$State" (34 : Nat) "BellMoney$State" "debt" "J" ∈ Wd := List.mem_filter.mpr ⟨List.mem_of_getElem? (i := 186) (by decide +kernel), by decide +kernel⟩
theorem mw_82 : Jvm.Cond.fieldLink "BellMoney$State" (31 : Nat) "BellMoney$State" "heap" "J" ∈ Wd := List.mem_filter.mpr ⟨List.mem_of_getElem? (i := 184) (by decide +kernel), by decide +kernel⟩
theorem mw_79 : Jvm.Cond.fieldLink "BellMoney$State" (27 : Nat) "BellMoney$State" "purse" "J" ∈ Wd := List.mem_filter.mpr ⟨List.mem_of_getElem? (i := 181) (by decide +kernel), by decide +kernel⟩
theorem mw_75 : Jvm.Cond.fieldLink "BellMoney$State" (24 : Nat) "BellMoney$State" "trust" "I" ∈ Wd := List.mem_filter.mpr ⟨List.mem_of_getElem? (i := 177) (by decide +kernel), by decide +kernel⟩
theorem mw_72 : Jvm.Cond.fieldLink "BellMoney$State" (21 : Nat) "BellMoney$State" "cracked" "I" ∈ Wd := List.mem_filter.mpr ⟨List.mem_of_getElem? (i := 174) (by decide +kernel), by decide +kernel⟩
theorem mw_68 : Jvm.Cond.fieldLink "BellMoney$State" (18 : Nat) "BellMoney$State" "hang" "I" ∈ Wd := List.mem_filter.mpr ⟨List.mem_of_getElem? (i := 170) (by decide +kernel), by decide +kernel⟩
theorem mw_65 : Jvm.Cond.fieldLink "BellMoney$State" (15 : Nat) "BellMoney$State" "bells" "I" ∈ Wd := List.mem_filter.mpr ⟨List.mem_of_getElem? (i := 167) (by decide +kernel), by decide +kernel⟩
theorem mw_62 : Jvm.Cond.fieldLink "BellMoney$State" (9 : Nat) "BellMoney$State" "year" "I" ∈ Wd := List.mem_filter.mpr ⟨List.mem_of_getElem? (i := 164) (by decide +kernel), by decide +kernel⟩
theorem mw_358 : Jvm.Cond.fieldLink "BellMoney$World" (33 : Nat) "BellMoney$World" "acts" "I" ∈ Wd := List.mem_filter.mpr ⟨List.mem_of_getElem? (i := 460) (by decide +kernel), by decide +kernel⟩
theorem mw_353 : Jvm.Cond.fieldLink "BellMoney$World" (25 : Nat) "BellMoney$World" "state" "LBellMoney$State;" ∈ Wd := List.mem_filter.mpr ⟨List.mem_of_getElem? (i := 455) (by decide +kernel), by decide +kernel⟩
theorem mw_349 : Jvm.Cond.fieldLink "BellMoney$World" (18 : Nat) "BellMoney$World" "town" "LBellMoney$Town;" ∈ Wd := List.mem_filter.mpr ⟨List.mem_of_getElem? (i := 451) (by decide +kernel), by decide +kernel⟩
theorem mw_1205 : Jvm.Cond.methodLink "BellMoney$World" (45 : Nat) ({ cls := "BellMoney$Town", name := "copy", desc := "(LBellMoney$Town;)V" } : Jvm.MethodName) ∈ Wd := List.mem_filter.mpr ⟨List.mem_of_getElem? (i := 1307) (by decide +kernel), by decide +kernel⟩
theorem mw_1208 : Jvm.Cond.code ({ cls := "BellMoney$Town", name := "copy", desc := "(LBellMoney$Town;)V" } : Jvm.MethodName) prog_10_method_3_code (2 : Nat) (Option.none : Option Jvm.ClassFile.FieldType) ∈ Wd := List.mem_filter.mpr ⟨List.mem_of_getElem? (i := 1310) (by decide +kernel), by decide +kernel⟩
theorem mw_1206 : Jvm.Cond.instanceMethod ({ cls := "BellMoney$Town", name := "copy", desc := "(LBellMoney$Town;)V" } : Jvm.MethodName) ∈ Wd := List.mem_filter.mpr ⟨List.mem_of_getElem? (i := 1308) (by decide +kernel), by decide +kernel⟩
theorem mw_1207 : Jvm.Cond.selects "BellMoney$Town" ({ cls := "BellMoney$Town", name := "copy", desc := "(LBellMoney$Town;)V" } : Jvm.MethodName) ({ cls := "BellMoney$Town", name := "copy", desc := "(LBellMoney$Town;)V" } : Jvm.MethodName) ∈ Wd := List.mem_filter.mpr ⟨List.mem_of_getElem? (i := 1309) (by decide +kernel), by decide +kernel⟩
theorem mw_767 : Jvm.Cond.methodLink "BellMoney$World" (41 : Nat) ({ cls := "BellMoney$State", name := "copy", desc := "(LBellMoney$State;)V" } : Jvm.MethodName) ∈ Wd := List.mem_filter.mpr ⟨List.mem_of_getElem? (i := 869) (by decide +kernel), by decide +kernel⟩
theorem mw_770 : Jvm.Cond.code ({ cls := "BellMoney$State", name := "copy", desc := "(LBellMoney$State;)V" } : Jvm.MethodName) prog_8_method_3_code (2 : Nat) (Option.none : Option Jvm.ClassFile.FieldType) ∈ Wd := List.mem_filter.mpr ⟨List.mem_of_getElem? (i := 872) (by decide +kernel), by decide +kernel⟩
theorem mw_768 : Jvm.Cond.instanceMethod ({ cls := "BellMoney$State", name := "copy", desc := "(LBellMoney$State;)V" } : Jvm.MethodName) ∈ Wd := List.mem_filter.mpr ⟨List.mem_of_getElem? (i := 870) (by decide +kernel), by decide +kernel⟩
theorem mw_769 : Jvm.Cond.selects "BellMoney$State" ({ cls := "BellMoney$State", name := "copy", desc := "(LBellMoney$State;)V" } : Jvm.MethodName) ({ cls := "BellMoney$State", name := "copy", desc := "(LBellMoney$State;)V" } : Jvm.MethodName) ∈ Wd := List.mem_filter.mpr ⟨List.mem_of_getElem? (i := 871) (by decide +kernel), by decide +kernel⟩
theorem mw_638 : Jvm.Cond.methodLink "BellMoney$World" (37 : Nat) ({ cls := "BellMoney$State", name := "begin", desc := "(LBellMoney$Town;)V" } : Jvm.MethodName) ∈ Wd := List.mem_filter.mpr ⟨List.mem_of_getElem? (i := 740) (by decide +kernel), by decide +kernel⟩
theorem mw_641 : Jvm.Cond.code ({ cls := "BellMoney$State", name := "begin", desc := "(LBellMoney$Town;)V" } : Jvm.MethodName) prog_8_method_2_code (2 : Nat) (Option.none : Option Jvm.ClassFile.FieldType) ∈ Wd := List.mem_filter.mpr ⟨List.mem_of_getElem? (i := 743) (by decide +kernel), by decide +kernel⟩
theorem mw_639 : Jvm.Cond.instanceMethod ({ cls := "BellMoney$State", name := "begin", desc := "(LBellMoney$Town;)V" } : Jvm.MethodName) ∈ Wd := List.mem_filter.mpr ⟨List.mem_of_getElem? (i := 741) (by decide +kernel), by decide +kernel⟩
theorem mw_640 : Jvm.Cond.selects "BellMoney$State" ({ cls := "BellMoney$State", name := "begin", desc := "(LBellMoney$Town;)V" } : Jvm.MethodName) ({ cls := "BellMoney$State", name := "begin", desc := "(LBellMoney$Town;)V" } : Jvm.MethodName) ∈ Wd := List.mem_filter.mpr ⟨List.mem_of_getElem? (i := 742) (by decide +kernel), by decide +kernel⟩
theorem mw_681 : Jvm.Cond.constant "java/lang/Integer" (267 : Nat) (252645135 : Int32) ∈ Wd := List.mem_filter.mpr ⟨List.mem_of_getElem? (i := 783) (by decide +kernel), by decide +kernel⟩
theorem mw_680 : Jvm.Cond.constant "java/lang/Integer" (266 : Nat) (858993459 : Int32) ∈ Wd := List.mem_filter.mpr ⟨List.mem_of_getElem? (i := 782) (by decide +kernel), by decide +kernel⟩
theorem mw_679 : Jvm.Cond.constant "java/lang/Integer" (265 : Nat) (1431655765 : Int32) ∈ Wd := List.mem_filter.mpr ⟨List.mem_of_getElem? (i := 781) (by decide +kernel), by decide +kernel⟩
theorem mw_210 : Jvm.Cond.fieldLink "BellMoney$Bells" (21 : Nat) "BellMoney$Bells" "tower" "[I" ∈ Wd := List.mem_filter.mpr ⟨List.mem_of_getElem? (i := 312) (by decide +kernel), by decide +kernel⟩
theorem mw_208 : Jvm.Cond.fieldLink "BellMoney$Bells" (18 : Nat) "BellMoney$Bells" "note" "[I" ∈ Wd := List.mem_filter.mpr ⟨List.mem_of_getElem? (i := 310) (by decide +kernel), by decide +kernel⟩
theorem mw_206 : Jvm.Cond.fieldLink "BellMoney$Bells" (15 : Nat) "BellMoney$Bells" "tin" "[I" ∈ Wd := List.mem_filter.mpr ⟨List.mem_of_getElem? (i := 308) (by decide +kernel), by decide +kernel⟩
theorem mw_203 : Jvm.Cond.fieldLink "BellMoney$Bells" (9 : Nat) "BellMoney$Bells" "ounces" "[I" ∈ Wd := List.mem_filter.mpr ⟨List.mem_of_getElem? (i := 305) (by decide +kernel), by decide +kernel⟩
theorem mw_1220 : Jvm.Cond.methodLink "BellMoney$Bells" (24 : Nat) ({ cls := "BellMoney$Bells", name := "put", desc := "(IIIII)V" } : Jvm.MethodName) ∈ Wd := List.mem_filter.mpr ⟨List.mem_of_getElem? (i := 1322) (by decide +kernel), by decide +kernel⟩
theorem mw_605 : Jvm.Cond.code ({ cls := "BellMoney$Bells", name := "put", desc := "(IIIII)V" } : Jvm.MethodName) prog_2_method_2_code (6 : Nat) (Option.none : Option Jvm.ClassFile.FieldType) ∈ Wd := List.mem_filter.mpr ⟨List.mem_of_getElem? (i := 707) (by decide +kernel), by decide +kernel⟩
theorem mw_603 : Jvm.Cond.instanceMethod ({ cls := "BellMoney$Bells", name := "put", desc := "(IIIII)V" } : Jvm.MethodName) ∈ Wd := List.mem_filter.mpr ⟨List.mem_of_getElem? (i := 705) (by decide +kernel), by decide +kernel⟩
theorem mw_604 : Jvm.Cond.selects "BellMoney$Bells" ({ cls := "BellMoney$Bells", name := "put", desc := "(IIIII)V" } : Jvm.MethodName) ({ cls := "BellMoney$Bells", name := "put", desc := "(IIIII)V" } : Jvm.MethodName) ∈ Wd := List.mem_filter.mpr ⟨List.mem_of_getElem? (i := 706) (by decide +kernel), by decide +kernel⟩
theorem mw_419 : Jvm.Cond.fieldLink "BellMoney$Row" (22 : Nat) "BellMoney$Row" "numbers" "[J" ∈ Wd := List.mem_filter.mpr ⟨List.mem_of_getElem? (i := 521) (by decide +kernel), by decide +kernel⟩
theorem mw_416 : Jvm.Cond.fieldLink "BellMoney$Row" (19 : Nat) "BellMoney$Row" "size" "I" ∈ Wd := List.mem_filter.mpr ⟨List.mem_of_getElem? (i := 518) (by decide +kernel), by decide +kernel⟩
theorem mw_414 : Jvm.Cond.fieldLink "BellMoney$Row" (15 : Nat) "BellMoney$Row" "width" "I" ∈ Wd := List.mem_filter.mpr ⟨List.mem_of_getElem? (i := 516) (by decide +kernel), by decide +kernel⟩
theorem mw_412 : Jvm.Cond.fieldLink "BellMoney$Row" (9 : Nat) "BellMoney$Row" "full" "Z" ∈ Wd := List.mem_filter.mpr ⟨List.mem_of_getElem? (i := 514) (by decide +kernel), by decide +kernel⟩
theorem mw_1234 : Jvm.Cond.methodLink "BellMoney$Row" (26 : Nat) ({ cls := "java/util/Arrays", name := "fill", desc := "([JJ)V" } : Jvm.MethodName) ∈ Wd := List.mem_filter.mpr ⟨List.mem_of_getElem? (i := 1336) (by decide +kernel), by decide +kernel⟩
theorem mw_1236 : Jvm.Cond.code ({ cls := "java/util/Arrays", name := "fill", desc := "([JJ)V" } : Jvm.MethodName) prog_20_method_101_code (5 : Nat) (Option.none : Option Jvm.ClassFile.FieldType) ∈ Wd := List.mem_filter.mpr ⟨List.mem_of_getElem? (i := 1338) (by decide +kernel), by decide +kernel⟩
theorem mw_1235 : Jvm.Cond.static ({ cls := "java/util/Arrays", name := "fill", desc := "([JJ)V" } : Jvm.MethodName) ∈ Wd := List.mem_filter.mpr ⟨List.mem_of_getElem? (i := 1337) (by decide +kernel), by decide +kernel⟩
abbrev Y0 : XY := (yX7_put, cX7_put, 3, none, 0)
abbrev Y1 : XY := (yX10_feed, cX10_feed, 6, (some .int), 1)
abbrev Y2 : XY := (yX11_four, cX11_four, 3, none, 0)
abbrev Y3 : XY := (yX11_feed, cX11_feed, 6, (some .int), 1)
abbrev Y4 : XY := (yX10_end, cX10_end, 2, (some .int), 0)
abbrev Y5 : XY := (yX11_in, cX11_in, 6, (some .boolean), 0)
abbrev Y6 : XY := (yX11_end, cX11_end, 2, (some .int), 1)
abbrev Y7 : XY := (yJ7_fill_53178, cJ7_fill_53178, 4, none, 0)
abbrev Y8 : XY := (yX3_wipe, cX3_wipe, 1, none, 1)
abbrev Y9 : XY := (yX8_wipe, cX8_wipe, 1, none, 2)
abbrev Y10 : XY := (yX4_kindHere, cX4_kindHere, 2, (some .int), 0)
abbrev Y11 : XY := (yX4_advance, cX4_advance, 1, none, 1)
abbrev Y12 : XY := (yX4_begin, cX4_begin, 2, none, 3)
abbrev Y13 : XY := (yX4_hasMore, cX4_hasMore, 1, (some .boolean), 0)
abbrev Y14 : XY := (yX6_begin, cX6_begin, 2, none, 0)
abbrev Y15 : XY := (yX9_begin, cX9_begin, 1, none, 1)
abbrev Y16 : XY := (yX10_town, cX10_town, 2, (some .int), 4)
abbrev Y17 : XY := (yX11_tells, cX11_tells, 3, none, 0)
abbrev Y18 : XY := (yX11_clears, cX11_clears, 2, none, 1)
abbrev Y19 : XY := (yX11_isByte, cX11_isByte, 4, (some .boolean), 0)
abbrev Y20 : XY := (yX11_next, cX11_next, 2, none, 1)
abbrev Y21 : XY := (yX11_begins, cX11_begins, 1, none, 2)
abbrev Y22 : XY := (yX11_isGood, cX11_isGood, 1, (some .boolean), 0)
abbrev Y23 : XY := (yX11_isOver, cX11_isOver, 1, none, 0)
abbrev Y24 : XY := (yX11_copyRow, cX11_copyRow, 5, none, 0)
abbrev Y25 : XY := (yX11_copyTown, cX11_copyTown, 3, none, 1)
abbrev Y26 : XY := (yX11_town, cX11_town, 1, (some .int), 3)
abbrev Y27 : XY := (yX10_fault, cX10_fault, 2, (some .int), 0)
abbrev Y28 : XY := (yX11_fault, cX11_fault, 2, (some .int), 0)
abbrev Y29 : XY := (yX10_isBell, cX10_isBell, 2, (some .boolean), 0)
abbrev Y30 : XY := (yX10_bell, cX10_bell, 3, (some .int), 1)
abbrev Y31 : XY := (yX11_isTown, cX11_isTown, 1, (some .boolean), 0)
abbrev Y32 : XY := (yX11_isBell, cX11_isBell, 2, (some .boolean), 1)
abbrev Y33 : XY := (yX11_bell, cX11_bell, 3, (some .int), 2)
abbrev Y34 : XY := (yX10_isTower, cX10_isTower, 2, (some .boolean), 0)
abbrev Y35 : XY := (yX10_tower, cX10_tower, 4, (some .int), 1)
abbrev Y36 : XY := (yX11_isTower, cX11_isTower, 2, (some .boolean), 1)
abbrev Y37 : XY := (yX11_tower, cX11_tower, 5, (some .int), 2)
abbrev Y38 : XY := (yX10_ward, cX10_ward, 4, (some .int), 0)
abbrev Y39 : XY := (yX11_ward, cX11_ward, 4, (some .int), 1)
abbrev Y40 : XY := (yX10_isDue, cX10_isDue, 2, (some .boolean), 0)
abbrev Y41 : XY := (yX10_due, cX10_due, 3, (some .int), 1)
abbrev Y42 : XY := (yX11_due, cX11_due, 3, (some .int), 1)
abbrev Y43 : XY := (yX10_coins, cX10_coins, 2, (some .int), 1)
abbrev Y44 : XY := (yX11_coins, cX11_coins, 2, (some .int), 2)
abbrev Y45 : XY := (yX10_over, cX10_over, 2, (some .int), 1)
abbrev Y46 : XY := (yX11_over, cX11_over, 2, (some .int), 2)
abbrev Y47 : XY := (yX10_why, cX10_why, 2, (some .int), 1)
abbrev Y48 : XY := (yX11_why, cX11_why, 2, (some .int), 2)
abbrev Y49 : XY := (yX10_noTown, cX10_noTown, 1, (some .boolean), 0)
abbrev Y50 : XY := (yX10_may, cX10_may, 3, (some .int), 1)
abbrev Y51 : XY := (yX11_may, cX11_may, 3, (some .int), 1)
abbrev Y52 : XY := (yX10_now, cX10_now, 3, (some .long), 1)
abbrev Y53 : XY := (yX11_now, cX11_now, 2, (some .long), 1)
abbrev Y54 : XY := (yX6_priceAt, cX6_priceAt, 3, (some .long), 0)
abbrev Y55 : XY := (yX10_price, cX10_price, 3, (some .int), 1)
abbrev Y56 : XY := (yX11_priceOf, cX11_priceOf, 3, (some .long), 0)
abbrev Y57 : XY := (yX11_price, cX11_price, 3, (some .int), 1)
abbrev Y58 : XY := (yX10_asked, cX10_asked, 1, (some .long), 1)
abbrev Y59 : XY := (yX11_asked, cX11_asked, 4, (some .long), 1)
abbrev Y60 : XY := (yX10_melt, cX10_melt, 2, (some .int), 1)
abbrev Y61 : XY := (yX11_melt, cX11_melt, 2, (some .int), 2)
abbrev Y62 : XY := (yX10_isNote, cX10_isNote, 1, (some .boolean), 0)
abbrev Y63 : XY := (yX10_cast, cX10_cast, 9, (some .int), 1)
abbrev Y64 : XY := (yX11_cast, cX11_cast, 5, (some .int), 2)
abbrev Y65 : XY := (yX10_passes, cX10_passes, 1, (some .int), 1)
abbrev Y66 : XY := (yX11_passes, cX11_passes, 1, (some .int), 1)
abbrev Y67 : XY := (yX10_cracks, cX10_cracks, 3, (some .int), 1)
abbrev Y68 : XY := (yX11_cracks, cX11_cracks, 2, (some .int), 2)
abbrev Y69 : XY := (yX10_undo, cX10_undo, 1, (some .int), 1)
abbrev Y70 : XY := (yX11_undo, cX11_undo, 1, (some .int), 1)
abbrev Y71 : XY := (yX10_anew, cX10_anew, 2, (some .int), 1)
abbrev Y72 : XY := (yX11_anew, cX11_anew, 2, (some .int), 1)
abbrev Y73 : XY := (yX10_isSlot, cX10_isSlot, 1, (some .boolean), 0)
abbrev Y74 : XY := (yX10_plan, cX10_plan, 4, (some .long), 1)
abbrev Y75 : XY := (yX11_isSlot, cX11_isSlot, 1, (some .boolean), 1)
abbrev Y76 : XY := (yX11_whyNot, cX11_whyNot, 4, (some .int), 2)
abbrev Y77 : XY := (yX11_plan, cX11_plan, 4, (some .long), 3)
abbrev Y78 : XY := (yX10_enough, cX10_enough, 2, (some .int), 1)
abbrev Y79 : XY := (yX11_enough, cX11_enough, 1, (some .int), 1)
abbrev Y80 : XY := (yX10_melted, cX10_melted, 1, (some .int), 1)
abbrev Y81 : XY := (yX11_melted, cX11_melted, 1, (some .int), 1)
abbrev Y82 : XY := (yX10_ounces, cX10_ounces, 2, (some .int), 1)
abbrev Y83 : XY := (yX11_ounces, cX11_ounces, 1, (some .int), 1)
abbrev Y84 : XY := (yX10_lightest, cX10_lightest, 1, (some .int), 1)
abbrev Y85 : XY := (yX11_lightest, cX11_lightest, 1, (some .int), 1)
abbrev Y86 : XY := (yX10_loud, cX10_loud, 1, (some .int), 1)
abbrev Y87 : XY := (yX11_loud, cX11_loud, 1, (some .int), 1)
abbrev Y88 : XY := (yX10_loudly, cX10_loudly, 1, (some .int), 1)
abbrev Y89 : XY := (yX11_loudly, cX11_loudly, 1, (some .int), 1)
abbrev Y90 : XY := (yX10_lawful, cX10_lawful, 2, (some .int), 1)
abbrev Y91 : XY := (yX11_isSet, cX11_isSet, 2, (some .boolean), 1)
abbrev Y92 : XY := (yX11_lawful, cX11_lawful, 2, (some .int), 2)
abbrev Y93 : XY := (yX10_silent, cX10_silent, 2, (some .int), 1)
abbrev Y94 : XY := (yX11_silent, cX11_silent, 2, (some .int), 1)
abbrev Y95 : XY := (yX10_silence, cX10_silence, 1, (some .int), 1)
abbrev Y96 : XY := (yX11_silence, cX11_silence, 1, (some .int), 1)
abbrev Y97 : XY := (yX10_guarded, cX10_guarded, 1, (some .int), 1)
abbrev Y98 : XY := (yX11_guarded, cX11_guarded, 4, (some .int), 1)
abbrev Y99 : XY := (yX10_alloy, cX10_alloy, 6, (some .int), 1)
abbrev Y100 : XY := (yX11_alloy, cX11_alloy, 5, (some .int), 2)
abbrev Y101 : XY := (yX10_isCast, cX10_isCast, 4, (some .boolean), 1)
abbrev Y102 : XY := (yX10_casts, cX10_casts, 5, (some .int), 2)
abbrev Y103 : XY := (yX11_isCast, cX11_isCast, 4, (some .boolean), 1)
abbrev Y104 : XY := (yX11_casts, cX11_casts, 5, (some .int), 2)
abbrev Y105 : XY := (yX10_castOf, cX10_castOf, 4, (some .int), 2)
abbrev Y106 : XY := (yX11_castOf, cX11_castOf, 4, (some .int), 2)
abbrev Y107 : XY := (yX10_isTest, cX10_isTest, 3, (some .boolean), 1)
abbrev Y108 : XY := (yX10_tested, cX10_tested, 3, (some .int), 2)
abbrev Y109 : XY := (yX11_isTest, cX11_isTest, 3, (some .boolean), 1)
abbrev Y110 : XY := (yX11_tested, cX11_tested, 3, (some .int), 2)
abbrev Y111 : XY := (yX10_sure, cX10_sure, 4, (some .int), 2)
abbrev Y112 : XY := (yX11_sure, cX11_sure, 4, (some .int), 2)
abbrev Y113 : XY := (yX10_few, cX10_few, 3, (some .int), 2)
abbrev Y114 : XY := (yX11_few, cX11_few, 3, (some .int), 2)
abbrev Y115 : XY := (yX10_hold, cX10_hold, 2, (some .int), 1)
abbrev Y116 : XY := (yX11_hold, cX11_hold, 2, (some .int), 1)
abbrev Y117 : XY := (yX10_held, cX10_held, 1, (some .int), 1)
abbrev Y118 : XY := (yX11_held, cX11_held, 1, (some .int), 1)
abbrev Y119 : XY := (yX10_fills, cX10_fills, 3, (some .int), 1)
abbrev Y120 : XY := (yX11_fills, cX11_fills, 2, (some .int), 2)
abbrev Y121 : XY := (yX10_filled, cX10_filled, 2, (some .int), 1)
abbrev Y122 : XY := (yX11_filled, cX11_filled, 2, (some .int), 2)
abbrev Y123 : XY := (yX10_isSum, cX10_isSum, 2, (some .boolean), 1)
abbrev Y124 : XY := (yX10_pays, cX10_pays, 3, (some .int), 2)
abbrev Y125 : XY := (yX11_pays, cX11_pays, 2, (some .int), 1)
abbrev Y126 : XY := (yX10_paid, cX10_paid, 3, (some .int), 2)
abbrev Y127 : XY := (yX11_paid, cX11_paid, 2, (some .int), 1)
abbrev Y128 : XY := (yX10_sundays, cX10_sundays, 1, (some .int), 1)
abbrev Y129 : XY := (yX11_sundays, cX11_sundays, 1, (some .int), 1)
abbrev Y130 : XY := (yX10_broke, cX10_broke, 1, (some .int), 1)
abbrev Y131 : XY := (yX11_broke, cX11_broke, 1, (some .int), 1)
abbrev Y132 : XY := (yX10_hears, cX10_hears, 3, (some .int), 1)
abbrev Y133 : XY := (yX11_hears, cX11_hears, 4, (some .int), 2)
abbrev Y134 : XY := (yX10_clear, cX10_clear, 1, (some .int), 1)
abbrev Y135 : XY := (yX11_clear, cX11_clear, 2, (some .int), 1)
abbrev Y136 : XY := (yX10_isComing, cX10_isComing, 2, (some .boolean), 1)
abbrev Y137 : XY := (yX10_rest, cX10_rest, 2, (some .long), 2)
abbrev Y138 : XY := (yX11_isYear, cX11_isYear, 2, (some .boolean), 1)
abbrev Y139 : XY := (yX11_rest, cX11_rest, 2, (some .long), 2)
abbrev Y140 : XY := (yX10_trust, cX10_trust, 2, (some .int), 2)
abbrev Y141 : XY := (yX11_trust, cX11_trust, 2, (some .int), 2)
abbrev Y142 : XY := (yX10_rings, cX10_rings, 1, (some .int), 1)
abbrev Y143 : XY := (yX11_rings, cX11_rings, 3, (some .int), 1)
abbrev Y144 : XY := (yX10_note, cX10_note, 2, (some .int), 1)
abbrev Y145 : XY := (yX11_note, cX11_note, 4, (some .int), 1)
abbrev Y146 : XY := (yX10_changes, cX10_changes, 1, (some .int), 1)
abbrev Y147 : XY := (yX11_changes, cX11_changes, 5, (some .int), 1)
abbrev Y148 : XY := (yX10_drawn, cX10_drawn, 3, (some .int), 1)
abbrev Y149 : XY := (yX11_drawn, cX11_drawn, 3, (some .int), 1)
abbrev Y150 : XY := (yX10_winters, cX10_winters, 5, (some .int), 1)
abbrev Y151 : XY := (yX11_winters, cX11_winters, 5, (some .int), 1)
abbrev Y152 : XY := (yX10_raise, cX10_raise, 4, (some .int), 1)
abbrev Y153 : XY := (yX11_raise, cX11_raise, 4, (some .int), 1)
abbrev Y154 : XY := (yX10_tax, cX10_tax, 3, (some .int), 1)
abbrev Y155 : XY := (yX11_tax, cX11_tax, 3, (some .int), 1)
abbrev Y156 : XY := (yX10_fullSlots, cX10_fullSlots, 3, (some .int), 0)
abbrev Y157 : XY := (yJ6_bitCount_0f7a4, cJ6_bitCount_0f7a4, 1, (some .int), 0)
abbrev Y158 : XY := (yX10_count, cX10_count, 2, (some .int), 1)
abbrev Y159 : XY := (yX11_sizeOf, cX11_sizeOf, 3, (some .int), 0)
abbrev Y160 : XY := (yX11_count, cX11_count, 4, (some .int), 1)
abbrev Y161 : XY := (yX10_back, cX10_back, 2, (some .int), 0)
abbrev Y162 : XY := (yX11_back, cX11_back, 2, (some .int), 1)
abbrev Y163 : XY := (yX10_write, cX10_write, 6, (some .int), 1)
abbrev Y164 : XY := (yX11_write, cX11_write, 5, (some .int), 2)
abbrev Y165 : XY := (yX10_paste, cX10_paste, 8, (some .int), 1)
abbrev Y166 : XY := (yX11_paste, cX11_paste, 7, (some .int), 2)
abbrev Y167 : XY := (yX3_copy, cX3_copy, 2, none, 1)
abbrev Y168 : XY := (yX0_put, cX0_put, 6, none, 0)
abbrev Y169 : XY := (yX0_copy, cX0_copy, 3, none, 1)
abbrev Y170 : XY := (yX8_copy, cX8_copy, 2, none, 2)
abbrev Y171 : XY := (yX6_copy, cX6_copy, 2, none, 0)
abbrev Y172 : XY := (yX9_copy, cX9_copy, 3, none, 3)
abbrev Y173 : XY := (yX10_image, cX10_image, 2, (some .int), 4)
abbrev Y174 : XY := (yX11_image, cX11_image, 2, (some .int), 2)
abbrev Y175 : XY := (yJ7_fill_d0a16, cJ7_fill_d0a16, 5, none, 0)
abbrev Y176 : XY := (yX5_begin, cX5_begin, 3, none, 1)
abbrev Y177 : XY := (yX10_row, cX10_row, 4, (some .int), 2)
abbrev Y178 : XY := (yX11_row, cX11_row, 5, (some .int), 2)
abbrev ysP : List XY := [Y0, Y1, Y2, Y3, Y4, Y5, Y6, Y7, Y8, Y9, Y10, Y11, Y12, Y13, Y14, Y15, Y16, Y17, Y18, Y19, Y20, Y21, Y22, Y23, Y24, Y25, Y26, Y27, Y28, Y29, Y30, Y31, Y32, Y33, Y34, Y35, Y36, Y37, Y38, Y39, Y40, Y41, Y42, Y43, Y44, Y45, Y46, Y47, Y48, Y49, Y50, Y51, Y52, Y53, Y54, Y55, Y56, Y57, Y58, Y59, Y60, Y61, Y62, Y63, Y64, Y65, Y66, Y67, Y68, Y69, Y70, Y71, Y72, Y73, Y74, Y75, Y76, Y77, Y78, Y79, Y80, Y81, Y82, Y83, Y84, Y85, Y86, Y87, Y88, Y89, Y90, Y91, Y92, Y93, Y94, Y95, Y96, Y97, Y98, Y99, Y100, Y101, Y102, Y103, Y104, Y105, Y106, Y107, Y108, Y109, Y110, Y111, Y112, Y113, Y114, Y115, Y116, Y117, Y118, Y119, Y120, Y121, Y122, Y123, Y124, Y125, Y126, Y127, Y128, Y129, Y130, Y131, Y132, Y133, Y134, Y135, Y136, Y137, Y138, Y139, Y140, Y141, Y142, Y143, Y144, Y145, Y146, Y147, Y148, Y149, Y150, Y151, Y152, Y153, Y154, Y155, Y156, Y157, Y158, Y159, Y160, Y161, Y162, Y163, Y164, Y165, Y166, Y167, Y168, Y169, Y170, Y171, Y172, Y173, Y174, Y175, Y176, Y177, Y178]
def depP : List Nat := [0, 1, 0, 1, 0, 0, 1, 0, 1, 2, 0, 1, 3, 0, 0, 1, 4, 0, 1, 0, 1, 2, 0, 0, 0, 1, 3, 0, 0, 0, 1, 0, 1, 2, 0, 1, 1, 2, 0, 1, 0, 1, 1, 1, 2, 1, 2, 1, 2, 0, 1, 1, 1, 1, 0, 1, 0, 1, 1, 1, 1, 2, 0, 1, 2, 1, 1, 1, 2, 1, 1, 1, 1, 0, 1, 1, 2, 3, 1, 1, 1, 1, 1, 1, 1, 1, 1, 1, 1, 1, 1, 1, 2, 1, 1, 1, 1, 1, 1, 1, 2, 1, 2, 1, 2, 2, 2, 1, 2, 1, 2, 2, 2, 2, 2, 1, 1, 1, 1, 1, 2, 1, 2, 1, 2, 1, 2, 1, 1, 1, 1, 1, 1, 2, 1, 1, 1, 2, 1, 2, 2, 2, 1, 1, 1, 1, 1, 1, 1, 1, 1, 1, 1, 1, 1, 1, 0, 0, 1, 0, 1, 0, 1, 1, 2, 1, 2, 1, 0, 1, 2, 0, 3, 4, 2, 0, 1, 2, 2]
theorem depP_ok : ∀ (no k : Nat) (Y : XY), depP[no]? = some k → ysP[no]? = some Y → Y.2.2.2.2 = k := dep_of rfl
def q_X7 : XQ := ([], [])
theorem q_X7_ok : XQok RX7 q_X7 := XQok.nil
def fl_X7 : XF := [(9, 7, 0, 4), (15, 7, 1, 0)]
theorem fl_X7_ok : FLok RX7 fl_X7 := FLok.cons ⟨RX7, TX7, 2, tyX7, rfl, iX7, tyX7_ok, nmX7, by decide, mw_35, trivial⟩ (FLok.cons ⟨RX7, TX7, 2, tyX7, rfl, iX7, tyX7_ok, nmX7, by decide, mw_37, ⟨rfl, rfl⟩⟩ (FLok.nil))
def ml_X7 : XL := []
theorem ml_X7_ok : MLok RX7 ysP ml_X7 := MLok.nil
def ac_X7 : Option Nat := none
theorem ac_X7_ok : ∀ i, ac_X7 = some i → ACok RX7 i := fun i h => by cases h
def q_X10 : XQ := ([(218, 1000000)], [(197, (-2)), (380, (-4000000000000000000))])
theorem q_X10_ok : XQok RX10 q_X10 := XQok.i (by decide +kernel) mw_741 (XQok.l (by decide +kernel) mw_731 (XQok.l (by decide +kernel) mw_1128 (XQok.nil)))
def fl_X10 : XF := [(12, 10, 0, 4), (18, 10, 1, 4), (24, 10, 2, 4), (45, 10, 5, 3), (49, 10, 6, 3), (54, 9, 1, 4), (61, 10, 7, 4), (66, 7, 1, 0), (85, 4, 7, 0), (90, 8, 0, 0), (95, 4, 8, 0), (121, 9, 2, 4), (147, 8, 11, 0), (160, 8, 13, 0), (195, 6, 1, 0), (244, 8, 1, 0), (255, 9, 4, 0), (264, 5, 0, 1), (406, 8, 3, 0), (409, 8, 6, 0), (412, 8, 14, 0), (415, 8, 5, 0), (424, 9, 0, 1)]
theorem fl_X10_ok : FLok RX10 fl_X10 := FLok.cons ⟨RX10, TX10, 8, tyX10, rfl, iX10, tyX10_ok, nmX10, by decide, mw_431, trivial⟩ (FLok.cons ⟨RX10, TX10, 8, tyX10, rfl, iX10, tyX10_ok, nmX10, by decide, mw_432, trivial⟩ (FLok.cons ⟨RX10, TX10, 8, tyX10, rfl, iX10, tyX10_ok, nmX10, by decide, mw_433, trivial⟩ (FLok.cons ⟨RX10, TX10, 8, tyX10, rfl, iX10, tyX10_ok, nmX10, by decide, mw_436, ⟨⟨_, rfl⟩, rfl⟩⟩ (FLok.cons ⟨RX10, TX10, 8, tyX10, rfl, iX10, tyX10_ok, nmX10, by decide, mw_437, ⟨⟨_, rfl⟩, rfl⟩⟩ (FLok.cons ⟨RX9, TX9, 5, tyX9, rfl, iX9, tyX9_ok, nmX9, by decide, mw_350, trivial⟩ (FLok.cons ⟨RX10, TX10, 8, tyX10, rfl, iX10, tyX10_ok, nmX10, by decide, mw_438, trivial⟩ (FLok.cons ⟨RX7, TX7, 2, tyX7, rfl, iX7, tyX7_ok, nmX7, by decide, mw_38, ⟨rfl, rfl⟩⟩ (FLok.cons ⟨RX4, TX4, 9, tyX4, rfl, iX4, tyX4_ok, nmX4, by decide, mw_385, ⟨rfl, rfl⟩⟩ (FLok.cons ⟨RX8, TX8, 19, tyX8, rfl, iX8, tyX8_ok, nmX8, by decide, mw_242, ⟨rfl, rfl⟩⟩ (FLok.cons ⟨RX4, TX4, 9, tyX4, rfl, iX4, tyX4_ok, nmX4, by decide, mw_387, ⟨rfl, rfl⟩⟩ (FLok.cons ⟨RX9, TX9, 5, tyX9, rfl, iX9, tyX9_ok, nmX9, by decide, mw_356, trivial⟩ (FLok.cons ⟨RX8, TX8, 19, tyX8, rfl, iX8, tyX8_ok, nmX8, by decide, mw_281, ⟨rfl, rfl⟩⟩ (FLok.cons ⟨RX8, TX8, 19, tyX8, rfl, iX8, tyX8_ok, nmX8, by decide, mw_287, ⟨rfl, rfl⟩⟩ (FLok.cons ⟨RX6, TX6, 8, tyX6, rfl, iX6, tyX6_ok, nmX6, by decide, mw_67, ⟨rfl, rfl⟩⟩ (FLok.cons ⟨RX8, TX8, 19, tyX8, rfl, iX8, tyX8_ok, nmX8, by decide, mw_246, ⟨rfl, rfl⟩⟩ (FLok.cons ⟨RX9, TX9, 5, tyX9, rfl, iX9, tyX9_ok, nmX9, by decide, mw_359, ⟨rfl, rfl⟩⟩ (FLok.cons ⟨RX5, TX5, 4, tyX5, rfl, iX5, tyX5_ok, nmX5, by decide, mw_413, ⟨rfl, rfl⟩⟩ (FLok.cons ⟨RX8, TX8, 19, tyX8, rfl, iX8, tyX8_ok, nmX8, by decide, mw_253, ⟨rfl, rfl⟩⟩ (FLok.cons ⟨RX8, TX8, 19, tyX8, rfl, iX8, tyX8_ok, nmX8, by decide, mw_264, ⟨rfl, rfl⟩⟩ (FLok.cons ⟨RX8, TX8, 19, tyX8, rfl, iX8, tyX8_ok, nmX8, by decide, mw_290, ⟨rfl, rfl⟩⟩ (FLok.cons ⟨RX8, TX8, 19, tyX8, rfl, iX8, tyX8_ok, nmX8, by decide, mw_260, ⟨rfl, rfl⟩⟩ (FLok.cons ⟨RX9, TX9, 5, tyX9, rfl, iX9, tyX9_ok, nmX9, by decide, mw_348, ⟨rfl, rfl⟩⟩ (FLok.nil)))))))))))))))))))))))
def ml_X10 : XL := [(70, 0, 0, 1, 7), (74, 12, 0, 1, 4), (78, 13, 0, 0, 4), (88, 15, 0, 0, 9), (98, 29, 0, 1, 10), (133, 34, 0, 1, 10), (163, 157, 1, 1, 99), (168, 40, 0, 1, 10), (192, 49, 0, 0, 10), (219, 54, 1, 2, 6), (234, 62, 1, 1, 10), (261, 73, 1, 1, 10), (321, 101, 0, 3, 10), (329, 107, 0, 2, 10), (356, 123, 0, 1, 10), (377, 136, 0, 1, 10), (418, 156, 0, 0, 10), (421, 172, 0, 1, 9), (427, 176, 0, 2, 5)]
theorem ml_X10_ok : MLok RX10 ysP ml_X10 := MLok.cons (Y := Y0) rfl (ML1.v mw_460 mw_463 mw_2 (by decide +kernel) (by decide) mw_461 mw_462 rfl) (MLok.cons (Y := Y12) rfl (ML1.v mw_472 mw_475 mw_10 (by decide +kernel) (by decide) mw_473 mw_474 rfl) (MLok.cons (Y := Y13) rfl (ML1.v mw_497 mw_500 mw_10 (by decide +kernel) (by decide) mw_498 mw_499 rfl) (MLok.cons (Y := Y15) rfl (ML1.v mw_634 mw_637 mw_6 (by decide +kernel) (by decide) mw_635 mw_636 rfl) (MLok.cons (Y := Y29) rfl (ML1.v mw_650 mw_653 mw_1 (by decide +kernel) (by decide) mw_652 ms_14 rfl) (MLok.cons (Y := Y34) rfl (ML1.v mw_658 mw_661 mw_1 (by decide +kernel) (by decide) mw_660 ms_15 rfl) (MLok.cons (Y := Y157) rfl (ML1.s mw_676 mw_678 mw_18 (by decide +kernel) (by decide) mw_677) (MLok.cons (Y := Y40) rfl (ML1.v mw_686 mw_689 mw_1 (by decide +kernel) (by decide) mw_688 ms_16 rfl) (MLok.cons (Y := Y49) rfl (ML1.v mw_723 mw_726 mw_1 (by decide +kernel) (by decide) mw_725 ms_17 rfl) (MLok.cons (Y := Y54) rfl (ML1.s mw_742 mw_744 mw_4 (by decide +kernel) (by decide) mw_743) (MLok.cons (Y := Y62) rfl (ML1.s mw_787 mw_789 mw_1 (by decide +kernel) (by decide) mw_788) (MLok.cons (Y := Y73) rfl (ML1.s mw_839 mw_841 mw_1 (by decide +kernel) (by decide) mw_840) (MLok.cons (Y := Y101) rfl (ML1.v mw_986 mw_989 mw_1 (by decide +kernel) (by decide) mw_988 ms_25 rfl) (MLok.cons (Y := Y107) rfl (ML1.v mw_1008 mw_1011 mw_1 (by decide +kernel) (by decide) mw_1010 ms_26 rfl) (MLok.cons (Y := Y123) rfl (ML1.v mw_1078 mw_1081 mw_1 (by decide +kernel) (by decide) mw_1080 ms_30 rfl) (MLok.cons (Y := Y136) rfl (ML1.v mw_1124 mw_1127 mw_1 (by decide +kernel) (by decide) mw_1126 ms_31 rfl) (MLok.cons (Y := Y156) rfl (ML1.v mw_1193 mw_1196 mw_1 (by decide +kernel) (by decide) mw_1195 ms_34 rfl) (MLok.cons (Y := Y172) rfl (ML1.v mw_1201 mw_1204 mw_6 (by decide +kernel) (by decide) mw_1202 mw_1203 rfl) (MLok.cons (Y := Y176) rfl (ML1.v mw_1230 mw_1233 mw_11 (by decide +kernel) (by decide) mw_1231 mw_1232 rfl) (MLok.nil)))))))))))))))))))
def ac_X10 : Option Nat := none
theorem ac_X10_ok : ∀ i, ac_X10 = some i → ACok RX10 i := fun i h => by cases h
def q_X11 : XQ := ([], [(68, 3), (311, 10), (325, 2), (345, 5), (358, (-2)), (360, 1000000), (362, 9), (371, 10000), (373, 40), (375, 11), (473, (-4000000000000000000))])
theorem q_X11_ok : XQok RX11 q_X11 := XQok.l (by decide +kernel) mw_1415 (XQok.l (by decide +kernel) mw_1636 (XQok.l (by decide +kernel) mw_1637 (XQok.l (by decide +kernel) mw_1656 (XQok.l (by decide +kernel) mw_1702 (XQok.l (by decide +kernel) mw_1707 (XQok.l (by decide +kernel) mw_1708 (XQok.l (by decide +kernel) mw_1729 (XQok.l (by decide +kernel) mw_1730 (XQok.l (by decide +kernel) mw_1731 (XQok.l (by decide +kernel) mw_1940 (XQok.nil)))))))))))
def fl_X11 : XF := [(7, 11, 1, 4), (13, 11, 2, 4), (16, 11, 3, 4), (23, 11, 5, 4), (27, 11, 15, 0), (31, 11, 16, 4), (34, 11, 17, 4), (37, 11, 18, 4), (40, 11, 19, 4), (43, 11, 20, 4), (46, 11, 21, 4), (49, 11, 22, 4), (52, 11, 23, 4), (65, 11, 0, 0), (82, 11, 6, 0), (89, 11, 7, 0), (96, 11, 9, 0), (99, 11, 10, 0), (102, 11, 11, 2), (106, 11, 8, 0), (117, 11, 12, 0), (120, 11, 13, 0), (143, 11, 14, 0)]
theorem fl_X11_ok : FLok RX11 fl_X11 := FLok.cons ⟨RX11, TX11, 49, tyX11, rfl, iX11, tyX11_ok, nmX11, by decide, mw_1261, trivial⟩ (FLok.cons ⟨RX11, TX11, 49, tyX11, rfl, iX11, tyX11_ok, nmX11, by decide, mw_1262, trivial⟩ (FLok.cons ⟨RX11, TX11, 49, tyX11, rfl, iX11, tyX11_ok, nmX11, by decide, mw_1263, trivial⟩ (FLok.cons ⟨RX11, TX11, 49, tyX11, rfl, iX11, tyX11_ok, nmX11, by decide, mw_1265, trivial⟩ (FLok.cons ⟨RX11, TX11, 49, tyX11, rfl, iX11, tyX11_ok, nmX11, by decide, mw_1275, ⟨rfl, rfl⟩⟩ (FLok.cons ⟨RX11, TX11, 49, tyX11, rfl, iX11, tyX11_ok, nmX11, by decide, mw_1276, trivial⟩ (FLok.cons ⟨RX11, TX11, 49, tyX11, rfl, iX11, tyX11_ok, nmX11, by decide, mw_1277, trivial⟩ (FLok.cons ⟨RX11, TX11, 49, tyX11, rfl, iX11, tyX11_ok, nmX11, by decide, mw_1278, trivial⟩ (FLok.cons ⟨RX11, TX11, 49, tyX11, rfl, iX11, tyX11_ok, nmX11, by decide, mw_1279, trivial⟩ (FLok.cons ⟨RX11, TX11, 49, tyX11, rfl, iX11, tyX11_ok, nmX11, by decide, mw_1280, trivial⟩ (FLok.cons ⟨RX11, TX11, 49, tyX11, rfl, iX11, tyX11_ok, nmX11, by decide, mw_1281, trivial⟩ (FLok.cons ⟨RX11, TX11, 49, tyX11, rfl, iX11, tyX11_ok, nmX11, by decide, mw_1282, trivial⟩ (FLok.cons ⟨RX11, TX11, 49, tyX11, rfl, iX11, tyX11_ok, nmX11, by decide, mw_1283, trivial⟩ (FLok.cons ⟨RX11, TX11, 49, tyX11, rfl, iX11, tyX11_ok, nmX11, by decide, mw_1260, ⟨rfl, rfl⟩⟩ (FLok.cons ⟨RX11, TX11, 49, tyX11, rfl, iX11, tyX11_ok, nmX11, by decide, mw_1266, ⟨rfl, rfl⟩⟩ (FLok.cons ⟨RX11, TX11, 49, tyX11, rfl, iX11, tyX11_ok, nmX11, by decide, mw_1267, ⟨rfl, rfl⟩⟩ (FLok.cons ⟨RX11, TX11, 49, tyX11, rfl, iX11, tyX11_ok, nmX11, by decide, mw_1269, ⟨rfl, rfl⟩⟩ (FLok.cons ⟨RX11, TX11, 49, tyX11, rfl, iX11, tyX11_ok, nmX11, by decide, mw_1270, ⟨rfl, rfl⟩⟩ (FLok.cons ⟨RX11, TX11, 49, tyX11, rfl, iX11, tyX11_ok, nmX11, by decide, mw_1271, ⟨rfl, rfl⟩⟩ (FLok.cons ⟨RX11, TX11, 49, tyX11, rfl, iX11, tyX11_ok, nmX11, by decide, mw_1268, ⟨rfl, rfl⟩⟩ (FLok.cons ⟨RX11, TX11, 49, tyX11, rfl, iX11, tyX11_ok, nmX11, by decide, mw_1272, ⟨rfl, rfl⟩⟩ (FLok.cons ⟨RX11, TX11, 49, tyX11, rfl, iX11, tyX11_ok, nmX11, by decide, mw_1273, ⟨rfl, rfl⟩⟩ (FLok.cons ⟨RX11, TX11, 49, tyX11, rfl, iX11, tyX11_ok, nmX11, by decide, mw_1274, ⟨rfl, rfl⟩⟩ (FLok.nil)))))))))))))))))))))))
def ml_X11 : XL := [(70, 5, 1, 3, 11), (74, 75, 1, 1, 11), (85, 2, 0, 1, 11), (92, 19, 0, 3, 11), (126, 20, 0, 0, 11), (168, 17, 0, 2, 11), (172, 22, 0, 0, 11), (212, 18, 0, 0, 11), (215, 21, 0, 0, 11), (236, 23, 0, 0, 11), (239, 25, 0, 2, 11), (242, 24, 1, 4, 11), (299, 159, 1, 1, 11), (316, 56, 1, 2, 11), (336, 31, 0, 0, 11), (342, 32, 0, 1, 11), (347, 36, 0, 1, 11), (382, 76, 0, 1, 11), (412, 91, 0, 1, 11), (424, 103, 0, 3, 11), (446, 109, 0, 2, 11), (470, 138, 0, 1, 11)]
theorem ml_X11_ok : MLok RX11 ysP ml_X11 := MLok.cons (Y := Y5) rfl (ML1.s mw_1416 mw_1418 mw_12 (by decide +kernel) (by decide) mw_1417) (MLok.cons (Y := Y75) rfl (ML1.s mw_1412 mw_1414 mw_12 (by decide +kernel) (by decide) mw_1413) (MLok.cons (Y := Y2) rfl (ML1.v mw_1434 mw_1437 mw_12 (by decide +kernel) (by decide) mw_1436 ms_35 rfl) (MLok.cons (Y := Y19) rfl (ML1.v mw_1466 mw_1469 mw_12 (by decide +kernel) (by decide) mw_1468 ms_40 rfl) (MLok.cons (Y := Y20) rfl (ML1.v mw_1462 mw_1465 mw_12 (by decide +kernel) (by decide) mw_1464 ms_39 rfl) (MLok.cons (Y := Y17) rfl (ML1.v mw_1454 mw_1457 mw_12 (by decide +kernel) (by decide) mw_1456 ms_37 rfl) (MLok.cons (Y := Y22) rfl (ML1.v mw_1475 mw_1478 mw_12 (by decide +kernel) (by decide) mw_1477 ms_41 rfl) (MLok.cons (Y := Y18) rfl (ML1.v mw_1450 mw_1453 mw_12 (by decide +kernel) (by decide) mw_1452 ms_36 rfl) (MLok.cons (Y := Y21) rfl (ML1.v mw_1458 mw_1461 mw_12 (by decide +kernel) (by decide) mw_1460 ms_38 rfl) (MLok.cons (Y := Y23) rfl (ML1.v mw_1563 mw_1566 mw_12 (by decide +kernel) (by decide) mw_1565 ms_58 rfl) (MLok.cons (Y := Y25) rfl (ML1.v mw_1567 mw_1570 mw_12 (by decide +kernel) (by decide) mw_1569 ms_59 rfl) (MLok.cons (Y := Y24) rfl (ML1.s mw_1571 mw_1573 mw_12 (by decide +kernel) (by decide) mw_1572) (MLok.cons (Y := Y159) rfl (ML1.s mw_1653 mw_1655 mw_12 (by decide +kernel) (by decide) mw_1654) (MLok.cons (Y := Y56) rfl (ML1.s mw_1633 mw_1635 mw_12 (by decide +kernel) (by decide) mw_1634) (MLok.cons (Y := Y31) rfl (ML1.v mw_1582 mw_1585 mw_12 (by decide +kernel) (by decide) mw_1584 ms_61 rfl) (MLok.cons (Y := Y32) rfl (ML1.v mw_1578 mw_1581 mw_12 (by decide +kernel) (by decide) mw_1580 ms_60 rfl) (MLok.cons (Y := Y36) rfl (ML1.v mw_1661 mw_1664 mw_12 (by decide +kernel) (by decide) mw_1663 ms_76 rfl) (MLok.cons (Y := Y76) rfl (ML1.v mw_1752 mw_1755 mw_12 (by decide +kernel) (by decide) mw_1754 ms_81 rfl) (MLok.cons (Y := Y91) rfl (ML1.v mw_1805 mw_1808 mw_12 (by decide +kernel) (by decide) mw_1807 ms_87 rfl) (MLok.cons (Y := Y103) rfl (ML1.v mw_1840 mw_1843 mw_12 (by decide +kernel) (by decide) mw_1842 ms_90 rfl) (MLok.cons (Y := Y109) rfl (ML1.v mw_1856 mw_1859 mw_12 (by decide +kernel) (by decide) mw_1858 ms_92 rfl) (MLok.cons (Y := Y138) rfl (ML1.v mw_1936 mw_1939 mw_12 (by decide +kernel) (by decide) mw_1938 ms_99 rfl) (MLok.nil))))))))))))))))))))))
def ac_X11 : Option Nat := none
theorem ac_X11_ok : ∀ i, ac_X11 = some i → ACok RX11 i := fun i h => by cases h
def q_J7 : XQ := ([], [])
theorem q_J7_ok : XQok RJ7 q_J7 := XQok.nil
def fl_J7 : XF := []
theorem fl_J7_ok : FLok RJ7 fl_J7 := FLok.nil
def ml_J7 : XL := []
theorem ml_J7_ok : MLok RJ7 ysP ml_J7 := MLok.nil
def ac_J7 : Option Nat := none
theorem ac_J7_ok : ∀ i, ac_J7 = some i → ACok RJ7 i := fun i h => by cases h
def q_X3 : XQ := ([], [])
theorem q_X3_ok : XQok RX3 q_X3 := XQok.nil
def fl_X3 : XF := [(9, 3, 0, 0), (15, 3, 1, 0), (18, 3, 2, 4)]
theorem fl_X3_ok : FLok RX3 fl_X3 := FLok.cons ⟨RX3, TX3, 3, tyX3, rfl, iX3, tyX3_ok, nmX3, by decide, mw_227, ⟨rfl, rfl⟩⟩ (FLok.cons ⟨RX3, TX3, 3, tyX3, rfl, iX3, tyX3_ok, nmX3, by decide, mw_229, ⟨rfl, rfl⟩⟩ (FLok.cons ⟨RX3, TX3, 3, tyX3, rfl, iX3, tyX3_ok, nmX3, by decide, mw_231, trivial⟩ (FLok.nil)))
def ml_X3 : XL := [(22, 7, 1, 2, 99)]
theorem ml_X3_ok : MLok RX3 ysP ml_X3 := MLok.cons (Y := Y7) rfl (ML1.s mw_487 mw_482 mw_13 (by decide +kernel) (by decide) mw_481) (MLok.nil)
def ac_X3 : Option Nat := some 28
theorem ac_X3_ok : ∀ i, ac_X3 = some i → ACok RX3 i := fun i h => by cases h; exact ⟨mw_1213, mw_1215, mw_1214, mw_20⟩
def q_X8 : XQ := ([], [])
theorem q_X8_ok : XQok RX8 q_X8 := XQok.nil
def fl_X8 : XF := [(9, 8, 0, 0), (15, 8, 1, 0), (18, 8, 2, 0), (21, 8, 3, 0), (24, 8, 4, 0), (27, 8, 5, 0), (30, 8, 6, 0), (33, 8, 7, 4), (37, 8, 8, 0), (40, 8, 9, 0), (46, 8, 10, 4), (50, 8, 11, 0), (53, 8, 12, 4), (56, 8, 13, 0), (59, 8, 14, 0), (62, 8, 15, 4), (65, 8, 16, 4), (68, 8, 17, 4), (74, 8, 18, 4)]
theorem fl_X8_ok : FLok RX8 fl_X8 := FLok.cons ⟨RX8, TX8, 19, tyX8, rfl, iX8, tyX8_ok, nmX8, by decide, mw_240, ⟨rfl, rfl⟩⟩ (FLok.cons ⟨RX8, TX8, 19, tyX8, rfl, iX8, tyX8_ok, nmX8, by decide, mw_243, ⟨rfl, rfl⟩⟩ (FLok.cons ⟨RX8, TX8, 19, tyX8, rfl, iX8, tyX8_ok, nmX8, by decide, mw_247, ⟨rfl, rfl⟩⟩ (FLok.cons ⟨RX8, TX8, 19, tyX8, rfl, iX8, tyX8_ok, nmX8, by decide, mw_250, ⟨rfl, rfl⟩⟩ (FLok.cons ⟨RX8, TX8, 19, tyX8, rfl, iX8, tyX8_ok, nmX8, by decide, mw_254, ⟨rfl, rfl⟩⟩ (FLok.cons ⟨RX8, TX8, 19, tyX8, rfl, iX8, tyX8_ok, nmX8, by decide, mw_257, ⟨rfl, rfl⟩⟩ (FLok.cons ⟨RX8, TX8, 19, tyX8, rfl, iX8, tyX8_ok, nmX8, by decide, mw_261, ⟨rfl, rfl⟩⟩ (FLok.cons ⟨RX8, TX8, 19, tyX8, rfl, iX8, tyX8_ok, nmX8, by decide, mw_265, trivial⟩ (FLok.cons ⟨RX8, TX8, 19, tyX8, rfl, iX8, tyX8_ok, nmX8, by decide, mw_269, ⟨rfl, rfl⟩⟩ (FLok.cons ⟨RX8, TX8, 19, tyX8, rfl, iX8, tyX8_ok, nmX8, by decide, mw_272, ⟨rfl, rfl⟩⟩ (FLok.cons ⟨RX8, TX8, 19, tyX8, rfl, iX8, tyX8_ok, nmX8, by decide, mw_275, trivial⟩ (FLok.cons ⟨RX8, TX8, 19, tyX8, rfl, iX8, tyX8_ok, nmX8, by decide, mw_279, ⟨rfl, rfl⟩⟩ (FLok.cons ⟨RX8, TX8, 19, tyX8, rfl, iX8, tyX8_ok, nmX8, by decide, mw_282, trivial⟩ (FLok.cons ⟨RX8, TX8, 19, tyX8, rfl, iX8, tyX8_ok, nmX8, by decide, mw_285, ⟨rfl, rfl⟩⟩ (FLok.cons ⟨RX8, TX8, 19, tyX8, rfl, iX8, tyX8_ok, nmX8, by decide, mw_288, ⟨rfl, rfl⟩⟩ (FLok.cons ⟨RX8, TX8, 19, tyX8, rfl, iX8, tyX8_ok, nmX8, by decide, mw_291, trivial⟩ (FLok.cons ⟨RX8, TX8, 19, tyX8, rfl, iX8, tyX8_ok, nmX8, by decide, mw_294, trivial⟩ (FLok.cons ⟨RX8, TX8, 19, tyX8, rfl, iX8, tyX8_ok, nmX8, by decide, mw_298, trivial⟩ (FLok.cons ⟨RX8, TX8, 19, tyX8, rfl, iX8, tyX8_ok, nmX8, by decide, mw_300, trivial⟩ (FLok.nil)))))))))))))))))))
def ml_X8 : XL := [(78, 7, 1, 2, 99), (84, 8, 0, 0, 3), (87, 167, 0, 1, 3), (91, 169, 0, 1, 0)]
theorem ml_X8_ok : MLok RX8 ysP ml_X8 := MLok.cons (Y := Y7) rfl (ML1.s mw_480 mw_482 mw_13 (by decide +kernel) (by decide) mw_481) (MLok.cons (Y := Y8) rfl (ML1.v mw_483 mw_486 mw_9 (by decide +kernel) (by decide) mw_484 mw_485 rfl) (MLok.cons (Y := Y167) rfl (ML1.v mw_1209 mw_1212 mw_9 (by decide +kernel) (by decide) mw_1210 mw_1211 rfl) (MLok.cons (Y := Y169) rfl (ML1.v mw_1216 mw_1219 mw_8 (by decide +kernel) (by decide) mw_1217 mw_1218 rfl) (MLok.nil))))
def ac_X8 : Option Nat := some 94
theorem ac_X8_ok : ∀ i, ac_X8 = some i → ACok RX8 i := fun i h => by cases h; exact ⟨mw_1221, mw_1215, mw_1214, mw_20⟩
def q_X4 : XQ := ([], [])
theorem q_X4_ok : XQok RX4 q_X4 := XQok.nil
def fl_X4 : XF := [(9, 4, 2, 0), (15, 4, 3, 0), (18, 4, 4, 0), (24, 4, 6, 0), (27, 4, 7, 0), (30, 4, 8, 0), (33, 4, 0, 4), (37, 4, 1, 3), (219, 7, 1, 0)]
theorem fl_X4_ok : FLok RX4 fl_X4 := FLok.cons ⟨RX4, TX4, 9, tyX4, rfl, iX4, tyX4_ok, nmX4, by decide, mw_379, ⟨rfl, rfl⟩⟩ (FLok.cons ⟨RX4, TX4, 9, tyX4, rfl, iX4, tyX4_ok, nmX4, by decide, mw_380, ⟨rfl, rfl⟩⟩ (FLok.cons ⟨RX4, TX4, 9, tyX4, rfl, iX4, tyX4_ok, nmX4, by decide, mw_381, ⟨rfl, rfl⟩⟩ (FLok.cons ⟨RX4, TX4, 9, tyX4, rfl, iX4, tyX4_ok, nmX4, by decide, mw_383, ⟨rfl, rfl⟩⟩ (FLok.cons ⟨RX4, TX4, 9, tyX4, rfl, iX4, tyX4_ok, nmX4, by decide, mw_384, ⟨rfl, rfl⟩⟩ (FLok.cons ⟨RX4, TX4, 9, tyX4, rfl, iX4, tyX4_ok, nmX4, by decide, mw_386, ⟨rfl, rfl⟩⟩ (FLok.cons ⟨RX4, TX4, 9, tyX4, rfl, iX4, tyX4_ok, nmX4, by decide, mw_377, trivial⟩ (FLok.cons ⟨RX4, TX4, 9, tyX4, rfl, iX4, tyX4_ok, nmX4, by decide, mw_378, ⟨⟨_, rfl⟩, rfl⟩⟩ (FLok.cons ⟨RX7, TX7, 2, tyX7, rfl, iX7, tyX7_ok, nmX7, by decide, mw_39, ⟨rfl, rfl⟩⟩ (FLok.nil)))))))))
def ml_X4 : XL := [(41, 9, 0, 0, 8), (46, 11, 0, 0, 4), (222, 10, 0, 0, 4)]
theorem ml_X4_ok : MLok RX4 ysP ml_X4 := MLok.cons (Y := Y9) rfl (ML1.v mw_476 mw_479 mw_7 (by decide +kernel) (by decide) mw_477 mw_478 rfl) (MLok.cons (Y := Y11) rfl (ML1.v mw_488 mw_491 mw_10 (by decide +kernel) (by decide) mw_490 ms_0 rfl) (MLok.cons (Y := Y10) rfl (ML1.v mw_492 mw_495 mw_10 (by decide +kernel) (by decide) mw_494 ms_1 rfl) (MLok.nil)))
def ac_X4 : Option Nat := none
theorem ac_X4_ok : ∀ i, ac_X4 = some i → ACok RX4 i := fun i h => by cases h
def q_X6 : XQ := ([], [(56, 10)])
theorem q_X6_ok : XQok RX6 q_X6 := XQok.l (by decide +kernel) mw_745 (XQok.nil)
def fl_X6 : XF := [(9, 6, 0, 0), (15, 6, 1, 0), (18, 6, 2, 0), (21, 6, 3, 0), (24, 6, 4, 0), (27, 6, 5, 2), (31, 6, 6, 2), (34, 6, 7, 2), (37, 8, 8, 0), (42, 8, 9, 0), (43, 8, 4, 0), (44, 8, 2, 0)]
theorem fl_X6_ok : FLok RX6 fl_X6 := FLok.cons ⟨RX6, TX6, 8, tyX6, rfl, iX6, tyX6_ok, nmX6, by decide, mw_62, ⟨rfl, rfl⟩⟩ (FLok.cons ⟨RX6, TX6, 8, tyX6, rfl, iX6, tyX6_ok, nmX6, by decide, mw_65, ⟨rfl, rfl⟩⟩ (FLok.cons ⟨RX6, TX6, 8, tyX6, rfl, iX6, tyX6_ok, nmX6, by decide, mw_68, ⟨rfl, rfl⟩⟩ (FLok.cons ⟨RX6, TX6, 8, tyX6, rfl, iX6, tyX6_ok, nmX6, by decide, mw_72, ⟨rfl, rfl⟩⟩ (FLok.cons ⟨RX6, TX6, 8, tyX6, rfl, iX6, tyX6_ok, nmX6, by decide, mw_75, ⟨rfl, rfl⟩⟩ (FLok.cons ⟨RX6, TX6, 8, tyX6, rfl, iX6, tyX6_ok, nmX6, by decide, mw_79, ⟨rfl, rfl⟩⟩ (FLok.cons ⟨RX6, TX6, 8, tyX6, rfl, iX6, tyX6_ok, nmX6, by decide, mw_82, ⟨rfl, rfl⟩⟩ (FLok.cons ⟨RX6, TX6, 8, tyX6, rfl, iX6, tyX6_ok, nmX6, by decide, mw_84, ⟨rfl, rfl⟩⟩ (FLok.cons ⟨RX8, TX8, 19, tyX8, rfl, iX8, tyX8_ok, nmX8, by decide, mw_270, ⟨rfl, rfl⟩⟩ (FLok.cons ⟨RX8, TX8, 19, tyX8, rfl, iX8, tyX8_ok, nmX8, by decide, mw_273, ⟨rfl, rfl⟩⟩ (FLok.cons ⟨RX8, TX8, 19, tyX8, rfl, iX8, tyX8_ok, nmX8, by decide, mw_255, ⟨rfl, rfl⟩⟩ (FLok.cons ⟨RX8, TX8, 19, tyX8, rfl, iX8, tyX8_ok, nmX8, by decide, mw_248, ⟨rfl, rfl⟩⟩ (FLok.nil))))))))))))
def ml_X6 : XL := []
theorem ml_X6_ok : MLok RX6 ysP ml_X6 := MLok.nil
def ac_X6 : Option Nat := none
theorem ac_X6_ok : ∀ i, ac_X6 = some i → ACok RX6 i := fun i h => by cases h
def q_X9 : XQ := ([], [])
theorem q_X9_ok : XQok RX9 q_X9 := XQok.nil
def fl_X9 : XF := [(18, 9, 1, 4), (25, 9, 2, 4), (33, 9, 4, 0)]
theorem fl_X9_ok : FLok RX9 fl_X9 := FLok.cons ⟨RX9, TX9, 5, tyX9, rfl, iX9, tyX9_ok, nmX9, by decide, mw_349, trivial⟩ (FLok.cons ⟨RX9, TX9, 5, tyX9, rfl, iX9, tyX9_ok, nmX9, by decide, mw_353, trivial⟩ (FLok.cons ⟨RX9, TX9, 5, tyX9, rfl, iX9, tyX9_ok, nmX9, by decide, mw_358, ⟨rfl, rfl⟩⟩ (FLok.nil)))
def ml_X9 : XL := [(37, 14, 0, 1, 6), (41, 171, 0, 1, 6), (45, 170, 0, 1, 8)]
theorem ml_X9_ok : MLok RX9 ysP ml_X9 := MLok.cons (Y := Y14) rfl (ML1.v mw_638 mw_641 mw_4 (by decide +kernel) (by decide) mw_639 mw_640 rfl) (MLok.cons (Y := Y171) rfl (ML1.v mw_767 mw_770 mw_4 (by decide +kernel) (by decide) mw_768 mw_769 rfl) (MLok.cons (Y := Y170) rfl (ML1.v mw_1205 mw_1208 mw_7 (by decide +kernel) (by decide) mw_1206 mw_1207 rfl) (MLok.nil)))
def ac_X9 : Option Nat := none
theorem ac_X9_ok : ∀ i, ac_X9 = some i → ACok RX9 i := fun i h => by cases h
def q_J6 : XQ := ([(265, 1431655765), (266, 858993459), (267, 252645135)], [])
theorem q_J6_ok : XQok RJ6 q_J6 := XQok.i (by decide +kernel) mw_679 (XQok.i (by decide +kernel) mw_680 (XQok.i (by decide +kernel) mw_681 (XQok.nil)))
def fl_J6 : XF := []
theorem fl_J6_ok : FLok RJ6 fl_J6 := FLok.nil
def ml_J6 : XL := []
theorem ml_J6_ok : MLok RJ6 ysP ml_J6 := MLok.nil
def ac_J6 : Option Nat := none
theorem ac_J6_ok : ∀ i, ac_J6 = some i → ACok RJ6 i := fun i h => by cases h
def q_X0 : XQ := ([], [])
theorem q_X0_ok : XQok RX0 q_X0 := XQok.nil
def fl_X0 : XF := [(9, 0, 0, 4), (15, 0, 1, 4), (18, 0, 2, 4), (21, 0, 3, 4)]
theorem fl_X0_ok : FLok RX0 fl_X0 := FLok.cons ⟨RX0, TX0, 4, tyX0, rfl, iX0, tyX0_ok, nmX0, by decide, mw_203, trivial⟩ (FLok.cons ⟨RX0, TX0, 4, tyX0, rfl, iX0, tyX0_ok, nmX0, by decide, mw_206, trivial⟩ (FLok.cons ⟨RX0, TX0, 4, tyX0, rfl, iX0, tyX0_ok, nmX0, by decide, mw_208, trivial⟩ (FLok.cons ⟨RX0, TX0, 4, tyX0, rfl, iX0, tyX0_ok, nmX0, by decide, mw_210, trivial⟩ (FLok.nil))))
def ml_X0 : XL := [(24, 168, 0, 5, 0)]
theorem ml_X0_ok : MLok RX0 ysP ml_X0 := MLok.cons (Y := Y168) rfl (ML1.v mw_1220 mw_605 mw_8 (by decide +kernel) (by decide) mw_603 mw_604 rfl) (MLok.nil)
def ac_X0 : Option Nat := none
theorem ac_X0_ok : ∀ i, ac_X0 = some i → ACok RX0 i := fun i h => by cases h
def q_X5 : XQ := ([], [])
theorem q_X5_ok : XQok RX5 q_X5 := XQok.nil
def fl_X5 : XF := [(9, 5, 0, 1), (15, 5, 1, 0), (19, 5, 2, 0), (22, 5, 3, 4)]
theorem fl_X5_ok : FLok RX5 fl_X5 := FLok.cons ⟨RX5, TX5, 4, tyX5, rfl, iX5, tyX5_ok, nmX5, by decide, mw_412, ⟨rfl, rfl⟩⟩ (FLok.cons ⟨RX5, TX5, 4, tyX5, rfl, iX5, tyX5_ok, nmX5, by decide, mw_414, ⟨rfl, rfl⟩⟩ (FLok.cons ⟨RX5, TX5, 4, tyX5, rfl, iX5, tyX5_ok, nmX5, by decide, mw_416, ⟨rfl, rfl⟩⟩ (FLok.cons ⟨RX5, TX5, 4, tyX5, rfl, iX5, tyX5_ok, nmX5, by decide, mw_419, trivial⟩ (FLok.nil))))
def ml_X5 : XL := [(26, 175, 1, 2, 99)]
theorem ml_X5_ok : MLok RX5 ysP ml_X5 := MLok.cons (Y := Y175) rfl (ML1.s mw_1234 mw_1236 mw_13 (by decide +kernel) (by decide) mw_1235) (MLok.nil)
def ac_X5 : Option Nat := none
theorem ac_X5_ok : ∀ i, ac_X5 = some i → ACok RX5 i := fun i h => by cases h
def K1 : List XK := [.inl (10, [tR 1, tR 3, tR 4, tR 5, tR 10, tR 15, tR 15, tR 30]), .inl (7, [tR 2, tV 0]), .inr (2, 1400, .inl ((-128), 127)), .inr (5, 3, .inr [15, 15, 15]), .inr (6, 4, .inr [31, 31, 31, 31]), .inl (2, [tR 6, tR 7, tR 8, tR 9, tI (-1) (-1), tI (-1) (-1), tI 0 0, tI 0 0, tI (-1) (-1), tI 0 0]), .inl (6, [tI 0 0, tI 0 0, tI 0 0, tI 0 0, tI 0 0, tL 0 0, tL 0 0, tL 0 0]), .inr (1, 20, .inl (0, 0)), .inr (1, 20, .inl (0, 0)), .inr (0, 20, .inl (0, 0)), .inl (1, [tR 5, tR 11, tR 12, tR 13, tR 14, tI 0 0, tI 0 0, tI 0 0, tI (-1) (-1)]), .inr (3, 1024, .inl (0, 0)), .inr (0, 1024, .inl (0, 0)), .inr (0, 11, .inl (0, 0)), .inr (0, 11, .inl (0, 0)), .inl (9, [tI 0 0, tR 16, tR 6, tR 29, tI 0 0]), .inl (8, [tI 0 0, tI 0 0, tI 0 0, tI 0 0, tI 0 0, tI 0 0, tI 0 0, tR 17, tI 0 0, tI 0 0, tR 18, tI 0 0, tR 23, tI 0 0, tI 0 0, tR 24, tR 25, tR 26, tR 27]), .inr (0, 4, .inl (0, 0)), .inl (0, [tR 19, tR 20, tR 21, tR 22]), .inr (0, 10, .inl (0, 0)), .inr (0, 10, .inl (0, 0)), .inr (0, 10, .inl (0, 0)), .inr (0, 10, .inl (0, 0)), .inr (0, 4, .inl (0, 0)), .inr (0, 12, .inl (0, 0)), .inr (0, 12, .inl (0, 0)), .inr (0, 20, .inl (0, 0)), .inl (3, [tI 0 0, tI 0 0, tR 28]), .inr (0, 10, .inl ((-1), 0)), .inr (4, 40, .inr [6, 6, 6, 6, 6, 6, 6, 6, 6, 6, 6, 6, 6, 6, 6, 6, 6, 6, 6, 6, 6, 6, 6, 6, 6, 6, 6, 6, 6, 6, 6, 6, 6, 6, 6, 6, 6, 6, 6, 6]), .inl (4, [tR 1, tR 16, tI 0 0, tI 0 0, tI 0 0, tI 0 0, tI 0 0, tI 0 0, tI (-1) (-1)]), .inl (5, [tI 0 0, tI 0 0, tI 0 0, tR 32]), .inr (1, 60, .inl (0, 0)), .inl (11, [tI 0 0, tR 34, tR 35, tR 36, tR 37, tR 38, tV 1, tI 0 0, tI 0 0, tI 0 0, tI 0 0, tL 0 0, tI 0 0, tI (-1) 0, tI 0 0, tI (-1) (-1), tR 39, tR 40, tR 41, tR 42, tR 43, tR 44, tR 45, tR 46, tI 0 0, tI 0 0, tI 0 0, tI 0 0, tI 0 0, tI 0 0, tL 0 0, tL 0 0, tR 47, tL 0 0, tI 0 0, tI 0 0, tI 0 0, tI 0 0, tI 0 0, tI 0 0, tI 0 0, tI 0 0, tI 0 0, tI 0 0, tI 0 0, tR 48, tI 0 0, tI 0 0, tR 49]), .inr (0, 4, .inl ((-1), (-1))), .inr (0, 4, .inl (0, 0)), .inr (1, 240, .inl (0, 0)), .inr (1, 60, .inl (0, 0)), .inr (2, 1400, .inl ((-128), 127)), .inr (0, 5, .inl (0, 0)), .inr (0, 65, .inl (0, 0)), .inr (0, 20, .inl (0, 0)), .inr (0, 240, .inl (0, 0)), .inr (0, 20, .inl (0, 0)), .inr (0, 120, .inl (0, 0)), .inr (0, 1000, .inl (0, 0)), .inr (3, 3, .inl (0, 0)), .inr (0, 60, .inl (0, 0)), .inr (3, 5120, .inl (0, 0)), .inr (0, 11264, .inl (0, 0))]
def K2 : List XK := [.inl (10, [tR 1, tR 3, tR 4, tR 5, tR 10, tR 15, tR 15, tR 30]), .inl (7, [tR 2, tV 0]), .inr (2, 1400, .inl ((-128), 127)), .inr (5, 3, .inr [15, 15, 15]), .inr (6, 4, .inr [31, 31, 31, 31]), .inl (2, [tR 6, tR 7, tR 8, tR 9, tI (-1) (-1), tI (-1) (-1), tI 0 0, tI 0 0, tI (-1) (-1), tI 0 0]), .inl (6, [tI 0 0, tI 0 0, tI 0 0, tI 0 0, tI 0 0, tL 0 0, tL 0 0, tL 0 0]), .inr (1, 20, .inl (0, 0)), .inr (1, 20, .inl (0, 0)), .inr (0, 20, .inl (0, 0)), .inl (1, [tR 5, tR 11, tR 12, tR 13, tR 14, tI 0 0, tI 0 0, tI 0 0, tI (-1) (-1)]), .inr (3, 1024, .inl (0, 0)), .inr (0, 1024, .inl (0, 0)), .inr (0, 11, .inl (0, 0)), .inr (0, 11, .inl (0, 0)), .inl (9, [tI 0 1, tR 16, tR 6, tR 29, tI 0 0]), .inl (8, [tI 0 0, tI 0 0, tI 0 0, tI 0 0, tI 0 0, tI 0 0, tI 0 0, tR 17, tI 0 0, tI 0 0, tR 18, tI 0 0, tR 23, tI 0 0, tI 0 0, tR 24, tR 25, tR 26, tR 27]), .inr (0, 4, .inl (0, 0)), .inl (0, [tR 19, tR 20, tR 21, tR 22]), .inr (0, 10, .inl (0, 0)), .inr (0, 10, .inl (0, 0)), .inr (0, 10, .inl (0, 0)), .inr (0, 10, .inl (0, 0)), .inr (0, 4, .inl (0, 0)), .inr (0, 12, .inl (0, 0)), .inr (0, 12, .inl (0, 0)), .inr (0, 20, .inl (0, 0)), .inl (3, [tI 0 0, tI 0 0, tR 28]), .inr (0, 10, .inl ((-1), 0)), .inr (4, 40, .inr [6, 6, 6, 6, 6, 6, 6, 6, 6, 6, 6, 6, 6, 6, 6, 6, 6, 6, 6, 6, 6, 6, 6, 6, 6, 6, 6, 6, 6, 6, 6, 6, 6, 6, 6, 6, 6, 6, 6, 6]), .inl (4, [tR 1, tR 16, tI 0 0, tI 0 0, tI 0 0, tI 0 0, tI 0 0, tI 0 0, tI (-1) (-1)]), .inl (5, [tI 0 0, tI 0 0, tI 0 0, tR 32]), .inr (1, 60, .inl (0, 0)), .inl (11, [tI 0 0, tR 34, tR 35, tR 36, tR 37, tR 38, tV 1, tI 0 0, tI 0 0, tI 0 0, tI 0 0, tL 0 0, tI 0 0, tI (-1) 0, tI 0 0, tI (-1) (-1), tR 39, tR 40, tR 41, tR 42, tR 43, tR 44, tR 45, tR 46, tI 0 0, tI 0 0, tI 0 0, tI 0 0, tI 0 0, tI 0 0, tL 0 0, tL 0 0, tR 47, tL 0 0, tI 0 0, tI 0 0, tI 0 0, tI 0 0, tI 0 0, tI 0 0, tI 0 0, tI 0 0, tI 0 0, tI 0 0, tI 0 0, tR 48, tI 0 0, tI 0 0, tR 49]), .inr (0, 4, .inl ((-1), (-1))), .inr (0, 4, .inl (0, 0)), .inr (1, 240, .inl (0, 0)), .inr (1, 60, .inl (0, 0)), .inr (2, 1400, .inl ((-128), 127)), .inr (0, 5, .inl (0, 0)), .inr (0, 65, .inl (0, 0)), .inr (0, 20, .inl (0, 0)), .inr (0, 240, .inl (0, 0)), .inr (0, 20, .inl (0, 0)), .inr (0, 120, .inl (0, 0)), .inr (0, 1000, .inl (0, 0)), .inr (3, 3, .inl (0, 1)), .inr (0, 60, .inl (0, 0)), .inr (3, 5120, .inl (0, 0)), .inr (0, 11264, .inl (0, 0))]
def K3 : List XK := [.inl (10, [tR 1, tR 3, tR 4, tR 5, tR 10, tR 15, tR 15, tR 30]), .inl (7, [tR 2, tV 0]), .inr (2, 1400, .inl ((-128), 127)), .inr (5, 3, .inr [15, 15, 15]), .inr (6, 4, .inr [31, 31, 31, 31]), .inl (2, [tR 6, tR 7, tR 8, tR 9, tI (-1) (-1), tI (-1) (-1), tI 0 0, tI 0 0, tI (-1) (-1), tI 0 0]), .inl (6, [tI 0 0, tI 0 0, tI 0 0, tI 0 0, tI 0 0, tL 0 0, tL 0 0, tL 0 0]), .inr (1, 20, .inl (0, 0)), .inr (1, 20, .inl (0, 0)), .inr (0, 20, .inl (0, 0)), .inl (1, [tR 5, tR 11, tR 12, tR 13, tR 14, tI 0 0, tI 0 0, tI 0 0, tI (-1) (-1)]), .inr (3, 1024, .inl (0, 0)), .inr (0, 1024, .inl (0, 0)), .inr (0, 11, .inl (0, 0)), .inr (0, 11, .inl (0, 0)), .inl (9, [tI 0 0, tR 16, tR 6, tR 29, tI 0 0]), .inl (8, [tI 0 0, tI 0 0, tI 0 0, tI 0 0, tI 0 0, tI 0 0, tI 0 0, tR 17, tI 0 0, tI 0 0, tR 18, tI 0 0, tR 23, tI 0 0, tI 0 0, tR 24, tR 25, tR 26, tR 27]), .inr (0, 4, .inl (0, 0)), .inl (0, [tR 19, tR 20, tR 21, tR 22]), .inr (0, 10, .inl (0, 0)), .inr (0, 10, .inl (0, 0)), .inr (0, 10, .inl (0, 0)), .inr (0, 10, .inl (0, 0)), .inr (0, 4, .inl (0, 0)), .inr (0, 12, .inl (0, 0)), .inr (0, 12, .inl (0, 0)), .inr (0, 20, .inl (0, 0)), .inl (3, [tI 0 0, tI 0 0, tR 28]), .inr (0, 10, .inl ((-1), 0)), .inr (4, 40, .inr [6, 6, 6, 6, 6, 6, 6, 6, 6, 6, 6, 6, 6, 6, 6, 6, 6, 6, 6, 6, 6, 6, 6, 6, 6, 6, 6, 6, 6, 6, 6, 6, 6, 6, 6, 6, 6, 6, 6, 6]), .inl (4, [tR 1, tR 16, tI 0 0, tI 0 0, tI 0 0, tI 0 0, tI 0 0, tI 0 0, tI (-1) (-1)]), .inl (5, [tI 0 1, tI 0 3, tI 0 60, tR 32]), .inr (1, 60, .inl (0, 0)), .inl (11, [tI 0 0, tR 34, tR 35, tR 36, tR 37, tR 38, tV 1, tI 0 0, tI 0 0, tI 0 0, tI 0 0, tL 0 0, tI 0 0, tI (-1) 0, tI 0 0, tI (-1) (-1), tR 39, tR 40, tR 41, tR 42, tR 43, tR 44, tR 45, tR 46, tI 0 0, tI 0 0, tI 0 0, tI 0 0, tI 0 0, tI 0 0, tL 0 0, tL 0 0, tR 47, tL 0 0, tI 0 0, tI 0 0, tI 0 0, tI 0 0, tI 0 0, tI 0 0, tI 0 0, tI 0 0, tI 0 0, tI 0 0, tI 0 0, tR 48, tI 0 0, tI 0 0, tR 49]), .inr (0, 4, .inl ((-1), 3)), .inr (0, 4, .inl (0, 60)), .inr (1, 240, .inl (0, 0)), .inr (1, 60, .inl (0, 0)), .inr (2, 1400, .inl ((-128), 127)), .inr (0, 5, .inl (0, 0)), .inr (0, 65, .inl (0, 0)), .inr (0, 20, .inl (0, 0)), .inr (0, 240, .inl (0, 0)), .inr (0, 20, .inl (0, 0)), .inr (0, 120, .inl (0, 0)), .inr (0, 1000, .inl (0, 0)), .inr (3, 3, .inl (0, 0)), .inr (0, 60, .inl (0, 0)), .inr (3, 5120, .inl (0, 0)), .inr (0, 11264, .inl (0, 0))]
def kdP : List Nat := [0, 1, 2, 3, 4, 5, 6, 7, 8, 9, 10, 11, 12, 13, 14, 15, 16, 17, 18, 19, 20, 21, 22, 23, 24, 25, 26, 27, 28, 6, 29, 6, 6, 6, 6, 6, 6, 6, 6, 6, 6, 6, 6, 6, 6, 6, 6, 6, 6, 6, 6, 6, 6, 6, 6, 6, 6, 6, 6, 6, 6, 6, 6, 6, 6, 6, 6, 6, 6, 6, 6, 15, 16, 17, 18, 19, 20, 21, 22, 23, 24, 25, 26, 27, 28, 6, 29, 6, 6, 6, 6, 6, 6, 6, 6, 6, 6, 6, 6, 6, 6, 6, 6, 6, 6, 6, 6, 6, 6, 6, 6, 6, 6, 6, 6, 6, 6, 6, 6, 6, 6, 6, 6, 6, 6, 6, 6, 30, 15, 16, 17, 18, 19, 20, 21, 22, 23, 24, 25, 26, 27, 28, 6, 29, 6, 6, 6, 6, 6, 6, 6, 6, 6, 6, 6, 6, 6, 6, 6, 6, 6, 6, 6, 6, 6, 6, 6, 6, 6, 6, 6, 6, 6, 6, 6, 6, 6, 6, 6, 6, 6, 6, 6, 6, 15, 16, 17, 18, 19, 20, 21, 22, 23, 24, 25, 26, 27, 28, 6, 29, 6, 6, 6, 6, 6, 6, 6, 6, 6, 6, 6, 6, 6, 6, 6, 6, 6, 6, 6, 6, 6, 6, 6, 6, 6, 6, 6, 6, 6, 6, 6, 6, 6, 6, 6, 6, 6, 6, 6, 6, 15, 16, 17, 18, 19, 20, 21, 22, 23, 24, 25, 26, 27, 28, 6, 29, 6, 6, 6, 6, 6, 6, 6, 6, 6, 6, 6, 6, 6, 6, 6, 6, 6, 6, 6, 6, 6, 6, 6, 6, 6, 6, 6, 6, 6, 6, 6, 6, 6, 6, 6, 6, 6, 6, 6, 6, 31, 32, 31, 32, 31, 32, 31, 32, 33, 34, 35, 36, 37, 38, 39, 40, 41, 42, 43, 44, 45, 46, 47, 48, 49]
def wrP : List Nat := [0, 1, 2, 3, 4, 5, 6, 7, 8, 9, 10, 11, 12, 13, 14, 15, 16, 17, 18, 19, 20, 21, 22, 23, 24, 25, 26, 27, 28, 29, 30, 31, 32, 33, 34, 35, 36, 37, 38, 39, 40, 41, 42, 43, 44, 45, 46, 47, 48, 49]
def trP : List (Nat × Nat) := [(1, 1), (304, 6)]
def E1 : XE := (K1, kdP, wrP, trP)
theorem tw1 : TW E1 := TW_of (by decide +kernel) (by decide +kernel)
def E2 : XE := (K2, kdP, wrP, trP)
theorem tw2 : TW E2 := TW_of (by decide +kernel) (by decide +kernel)
def E3 : XE := (K3, kdP, wrP, trP)
theorem tw3 : TW E3 := TW_of (by decide +kernel) (by decide +kernel)
