/-! town of the class -/
theorem mw_437 : Jvm.Cond.fieldLink "BellMoney" (49 : Nat) "BellMoney" "spare" "LBellMoney$World;" ∈ Wd := List.mem_filter.mpr ⟨List.mem_of_getElem? (i := 539) (by decide +kernel), by decide +kernel⟩
theorem mw_634 : Jvm.Cond.methodLink "BellMoney" (88 : Nat) ({ cls := "BellMoney$World", name := "begin", desc := "()V" } : Jvm.MethodName) ∈ Wd := List.mem_filter.mpr ⟨List.mem_of_getElem? (i := 736) (by decide +kernel), by decide +kernel⟩
theorem mw_637 : Jvm.Cond.code ({ cls := "BellMoney$World", name := "begin", desc := "()V" } : Jvm.MethodName) prog_11_method_2_code (1 : Nat) (Option.none : Option Jvm.ClassFile.FieldType) ∈ Wd := List.mem_filter.mpr ⟨List.mem_of_getElem? (i := 739) (by decide +kernel), by decide +kernel⟩
theorem mw_635 : Jvm.Cond.instanceMethod ({ cls := "BellMoney$World", name := "begin", desc := "()V" } : Jvm.MethodName) ∈ Wd := List.mem_filter.mpr ⟨List.mem_of_getElem? (i := 737) (by decide +kernel), by decide +kernel⟩
theorem mw_636 : Jvm.Cond.selects "BellMoney$World" ({ cls := "BellMoney$World", name := "begin", desc := "()V" } : Jvm.MethodName) ({ cls := "BellMoney$World", name := "begin", desc := "()V" } : Jvm.MethodName) ∈ Wd := List.mem_filter.mpr ⟨List.mem_of_getElem? (i := 738) (by decide +kernel), by decide +kernel⟩
theorem mw_501 : Jvm.Cond.methodLink "BellMoney" (82 : Nat) ({ cls := "BellMoney$Reader", name := "readLine", desc := "()V" } : Jvm.MethodName) ∈ Wd := List.mem_filter.mpr ⟨List.mem_of_getElem? (i := 603) (by decide +kernel), by decide +kernel⟩
theorem mw_504 : Jvm.Cond.code ({ cls := "BellMoney$Reader", name := "readLine", desc := "()V" } : Jvm.MethodName) prog_6_method_4_code (1 : Nat) (Option.none : Option Jvm.ClassFile.FieldType) ∈ Wd := List.mem_filter.mpr ⟨List.mem_of_getElem? (i := 606) (by decide +kernel), by decide +kernel⟩
theorem mw_502 : Jvm.Cond.instanceMethod ({ cls := "BellMoney$Reader", name := "readLine", desc := "()V" } : Jvm.MethodName) ∈ Wd := List.mem_filter.mpr ⟨List.mem_of_getElem? (i := 604) (by decide +kernel), by decide +kernel⟩
theorem mw_503 : Jvm.Cond.selects "BellMoney$Reader" ({ cls := "BellMoney$Reader", name := "readLine", desc := "()V" } : Jvm.MethodName) ({ cls := "BellMoney$Reader", name := "readLine", desc := "()V" } : Jvm.MethodName) ∈ Wd := List.mem_filter.mpr ⟨List.mem_of_getElem? (i := 605) (by decide +kernel), by decide +kernel⟩
theorem mw_497 : Jvm.Cond.methodLink "BellMoney" (78 : Nat) ({ cls := "BellMoney$Reader", name := "hasMore", desc := "()Z" } : Jvm.MethodName) ∈ Wd := List.mem_filter.mpr ⟨List.mem_of_getElem? (i := 599) (by decide +kernel), by decide +kernel⟩
theorem mw_500 : Jvm.Cond.code ({ cls := "BellMoney$Reader", name := "hasMore", desc := "()Z" } : Jvm.MethodName) prog_6_method_3_code (1 : Nat) (Option.some Jvm.ClassFile.FieldType.boolean) ∈ Wd := List.mem_filter.mpr ⟨List.mem_of_getElem? (i := 602) (by decide +kernel), by decide +kernel⟩
theorem mw_498 : Jvm.Cond.instanceMethod ({ cls := "BellMoney$Reader", name := "hasMore", desc := "()Z" } : Jvm.MethodName) ∈ Wd := List.mem_filter.mpr ⟨List.mem_of_getElem? (i := 600) (by decide +kernel), by decide +kernel⟩
theorem mw_499 : Jvm.Cond.selects "BellMoney$Reader" ({ cls := "BellMoney$Reader", name := "hasMore", desc := "()Z" } : Jvm.MethodName) ({ cls := "BellMoney$Reader", name := "hasMore", desc := "()Z" } : Jvm.MethodName) ∈ Wd := List.mem_filter.mpr ⟨List.mem_of_getElem? (i := 601) (by decide +kernel), by decide +kernel⟩
theorem mw_472 : Jvm.Cond.methodLink "BellMoney" (74 : Nat) ({ cls := "BellMoney$Reader", name := "begin", desc := "(LBellMoney$Town;)V" } : Jvm.MethodName) ∈ Wd := List.mem_filter.mpr ⟨List.mem_of_getElem? (i := 574) (by decide +kernel), by decide +kernel⟩
theorem mw_475 : Jvm.Cond.code ({ cls := "BellMoney$Reader", name := "begin", desc := "(LBellMoney$Town;)V" } : Jvm.MethodName) prog_6_method_2_code (2 : Nat) (Option.none : Option Jvm.ClassFile.FieldType) ∈ Wd := List.mem_filter.mpr ⟨List.mem_of_getElem? (i := 577) (by decide +kernel), by decide +kernel⟩
theorem mw_473 : Jvm.Cond.instanceMethod ({ cls := "BellMoney$Reader", name := "begin", desc := "(LBellMoney$Town;)V" } : Jvm.MethodName) ∈ Wd := List.mem_filter.mpr ⟨List.mem_of_getElem? (i := 575) (by decide +kernel), by decide +kernel⟩
theorem mw_474 : Jvm.Cond.selects "BellMoney$Reader" ({ cls := "BellMoney$Reader", name := "begin", desc := "(LBellMoney$Town;)V" } : Jvm.MethodName) ({ cls := "BellMoney$Reader", name := "begin", desc := "(LBellMoney$Town;)V" } : Jvm.MethodName) ∈ Wd := List.mem_filter.mpr ⟨List.mem_of_getElem? (i := 576) (by decide +kernel), by decide +kernel⟩
def q_X10T : XQ := ([(218, 1000000), (405, 100000), (449, 2000000000)], [(197, (-2)), (268, (-6)), (380, (-4000000000000000000))])
theorem q_X10T_ok : XQok RX10 q_X10T := XQok.i (by decide +kernel) mw_741 (XQok.i (by decide +kernel) mw_1188 (XQok.i (by decide +kernel) mw_1162 (XQok.l (by decide +kernel) mw_731 (XQok.l (by decide +kernel) mw_842 (XQok.l (by decide +kernel) mw_1128 (XQok.nil))))))
def fl_X10T : XF := [(12, 10, 0, 4), (18, 10, 1, 4), (24, 10, 2, 4), (31, 10, 3, 4), (40, 10, 4, 4), (45, 10, 5, 3), (49, 10, 6, 3), (54, 9, 1, 4), (61, 10, 7, 4), (66, 7, 1, 0), (85, 4, 7, 0), (90, 8, 0, 0), (95, 4, 8, 0), (102, 8, 10, 4), (106, 0, 0, 4), (112, 0, 1, 4), (115, 0, 2, 4), (118, 0, 3, 4), (121, 9, 2, 4), (125, 6, 2, 0), (130, 6, 3, 0), (140, 8, 7, 4), (147, 8, 11, 0), (154, 8, 12, 4), (160, 8, 13, 0), (171, 8, 15, 4), (174, 8, 16, 4), (183, 8, 18, 4), (195, 6, 1, 0), (199, 6, 0, 0), (202, 6, 5, 2), (206, 6, 6, 2), (209, 6, 4, 0), (212, 6, 7, 2), (244, 8, 1, 0), (255, 9, 4, 0), (264, 5, 0, 1), (277, 2, 0, 4), (278, 2, 4, 0), (281, 2, 7, 0), (284, 2, 5, 0), (337, 1, 5, 0), (340, 1, 6, 0), (343, 1, 7, 0), (346, 1, 8, 0), (368, 2, 6, 0), (382, 2, 1, 4), (386, 2, 2, 4), (389, 2, 3, 4), (406, 8, 3, 0), (409, 8, 6, 0), (412, 8, 14, 0), (415, 8, 5, 0), (424, 9, 0, 1), (430, 5, 2, 0)]
theorem fl_X10T_ok : FLok RX10 fl_X10T := FLok.cons ⟨RX10, TX10, 8, tyX10, rfl, iX10, tyX10_ok, nmX10, by decide, mw_431, trivial⟩ (FLok.cons ⟨RX10, TX10, 8, tyX10, rfl, iX10, tyX10_ok, nmX10, by decide, mw_432, trivial⟩ (FLok.cons ⟨RX10, TX10, 8, tyX10, rfl, iX10, tyX10_ok, nmX10, by decide, mw_433, trivial⟩ (FLok.cons ⟨RX10, TX10, 8, tyX10, rfl, iX10, tyX10_ok, nmX10, by decide, mw_434, trivial⟩ (FLok.cons ⟨RX10, TX10, 8, tyX10, rfl, iX10, tyX10_ok, nmX10, by decide, mw_435, trivial⟩ (FLok.cons ⟨RX10, TX10, 8, tyX10, rfl, iX10, tyX10_ok, nmX10, by decide, mw_436, ⟨⟨_, rfl⟩, rfl⟩⟩ (FLok.cons ⟨RX10, TX10, 8, tyX10, rfl, iX10, tyX10_ok, nmX10, by decide, mw_437, ⟨⟨_, rfl⟩, rfl⟩⟩ (FLok.cons ⟨RX9, TX9, 5, tyX9, rfl, iX9, tyX9_ok, nmX9, by decide, mw_350, trivial⟩ (FLok.cons ⟨RX10, TX10, 8, tyX10, rfl, iX10, tyX10_ok, nmX10, by decide, mw_438, trivial⟩ (FLok.cons ⟨RX7, TX7, 2, tyX7, rfl, iX7, tyX7_ok, nmX7, by decide, mw_38, ⟨rfl, rfl⟩⟩ (FLok.cons ⟨RX4, TX4, 9, tyX4, rfl, iX4, tyX4_ok, nmX4, by decide, mw_385, ⟨rfl, rfl⟩⟩ (FLok.cons ⟨RX8, TX8, 19, tyX8, rfl, iX8, tyX8_ok, nmX8, by decide, mw_242, ⟨rfl, rfl⟩⟩ (FLok.cons ⟨RX4, TX4, 9, tyX4, rfl, iX4, tyX4_ok, nmX4, by decide, mw_387, ⟨rfl, rfl⟩⟩ (FLok.cons ⟨RX8, TX8, 19, tyX8, rfl, iX8, tyX8_ok, nmX8, by decide, mw_276, trivial⟩ (FLok.cons ⟨RX0, TX0, 4, tyX0, rfl, iX0, tyX0_ok, nmX0, by decide, mw_204, trivial⟩ (FLok.cons ⟨RX0, TX0, 4, tyX0, rfl, iX0, tyX0_ok, nmX0, by decide, mw_207, trivial⟩ (FLok.cons ⟨RX0, TX0, 4, tyX0, rfl, iX0, tyX0_ok, nmX0, by decide, mw_209, trivial⟩ (FLok.cons ⟨RX0, TX0, 4, tyX0, rfl, iX0, tyX0_ok, nmX0, by decide, mw_211, trivial⟩ (FLok.cons ⟨RX9, TX9, 5, tyX9, rfl, iX9, tyX9_ok, nmX9, by decide, mw_356, trivial⟩ (FLok.cons ⟨RX6, TX6, 8, tyX6, rfl, iX6, tyX6_ok, nmX6, by decide, mw_70, ⟨rfl, rfl⟩⟩ (FLok.cons ⟨RX6, TX6, 8, tyX6, rfl, iX6, tyX6_ok, nmX6, by decide, mw_73, ⟨rfl, rfl⟩⟩ (FLok.cons ⟨RX8, TX8, 19, tyX8, rfl, iX8, tyX8_ok, nmX8, by decide, mw_267, trivial⟩ (FLok.cons ⟨RX8, TX8, 19, tyX8, rfl, iX8, tyX8_ok, nmX8, by decide, mw_281, ⟨rfl, rfl⟩⟩ (FLok.cons ⟨RX8, TX8, 19, tyX8, rfl, iX8, tyX8_ok, nmX8, by decide, mw_284, trivial⟩ (FLok.cons ⟨RX8, TX8, 19, tyX8, rfl, iX8, tyX8_ok, nmX8, by decide, mw_287, ⟨rfl, rfl⟩⟩ (FLok.cons ⟨RX8, TX8, 19, tyX8, rfl, iX8, tyX8_ok, nmX8, by decide, mw_292, trivial⟩ (FLok.cons ⟨RX8, TX8, 19, tyX8, rfl, iX8, tyX8_ok, nmX8, by decide, mw_295, trivial⟩ (FLok.cons ⟨RX8, TX8, 19, tyX8, rfl, iX8, tyX8_ok, nmX8, by decide, mw_304, trivial⟩ (FLok.cons ⟨RX6, TX6, 8, tyX6, rfl, iX6, tyX6_ok, nmX6, by decide, mw_67, ⟨rfl, rfl⟩⟩ (FLok.cons ⟨RX6, TX6, 8, tyX6, rfl, iX6, tyX6_ok, nmX6, by decide, mw_64, ⟨rfl, rfl⟩⟩ (FLok.cons ⟨RX6, TX6, 8, tyX6, rfl, iX6, tyX6_ok, nmX6, by decide, mw_81, ⟨rfl, rfl⟩⟩ (FLok.cons ⟨RX6, TX6, 8, tyX6, rfl, iX6, tyX6_ok, nmX6, by decide, mw_83, ⟨rfl, rfl⟩⟩ (FLok.cons ⟨RX6, TX6, 8, tyX6, rfl, iX6, tyX6_ok, nmX6, by decide, mw_78, ⟨rfl, rfl⟩⟩ (FLok.cons ⟨RX6, TX6, 8, tyX6, rfl, iX6, tyX6_ok, nmX6, by decide, mw_86, ⟨rfl, rfl⟩⟩ (FLok.cons ⟨RX8, TX8, 19, tyX8, rfl, iX8, tyX8_ok, nmX8, by decide, mw_246, ⟨rfl, rfl⟩⟩ (FLok.cons ⟨RX9, TX9, 5, tyX9, rfl, iX9, tyX9_ok, nmX9, by decide, mw_359, ⟨rfl, rfl⟩⟩ (FLok.cons ⟨RX5, TX5, 4, tyX5, rfl, iX5, tyX5_ok, nmX5, by decide, mw_413, ⟨rfl, rfl⟩⟩ (FLok.cons ⟨RX2, TX2, 10, tyX2, rfl, iX2, tyX2_ok, nmX2, by decide, mw_106, trivial⟩ (FLok.cons ⟨RX2, TX2, 10, tyX2, rfl, iX2, tyX2_ok, nmX2, by decide, mw_114, ⟨rfl, rfl⟩⟩ (FLok.cons ⟨RX2, TX2, 10, tyX2, rfl, iX2, tyX2_ok, nmX2, by decide, mw_121, ⟨rfl, rfl⟩⟩ (FLok.cons ⟨RX2, TX2, 10, tyX2, rfl, iX2, tyX2_ok, nmX2, by decide, mw_117, ⟨rfl, rfl⟩⟩ (FLok.cons ⟨RX1, TX1, 9, tyX1, rfl, iX1, tyX1_ok, nmX1, by decide, mw_159, ⟨rfl, rfl⟩⟩ (FLok.cons ⟨RX1, TX1, 9, tyX1, rfl, iX1, tyX1_ok, nmX1, by decide, mw_161, ⟨rfl, rfl⟩⟩ (FLok.cons ⟨RX1, TX1, 9, tyX1, rfl, iX1, tyX1_ok, nmX1, by decide, mw_163, ⟨rfl, rfl⟩⟩ (FLok.cons ⟨RX1, TX1, 9, tyX1, rfl, iX1, tyX1_ok, nmX1, by decide, mw_165, ⟨rfl, rfl⟩⟩ (FLok.cons ⟨RX2, TX2, 10, tyX2, rfl, iX2, tyX2_ok, nmX2, by decide, mw_119, ⟨rfl, rfl⟩⟩ (FLok.cons ⟨RX2, TX2, 10, tyX2, rfl, iX2, tyX2_ok, nmX2, by decide, mw_108, trivial⟩ (FLok.cons ⟨RX2, TX2, 10, tyX2, rfl, iX2, tyX2_ok, nmX2, by decide, mw_110, trivial⟩ (FLok.cons ⟨RX2, TX2, 10, tyX2, rfl, iX2, tyX2_ok, nmX2, by decide, mw_112, trivial⟩ (FLok.cons ⟨RX8, TX8, 19, tyX8, rfl, iX8, tyX8_ok, nmX8, by decide, mw_253, ⟨rfl, rfl⟩⟩ (FLok.cons ⟨RX8, TX8, 19, tyX8, rfl, iX8, tyX8_ok, nmX8, by decide, mw_264, ⟨rfl, rfl⟩⟩ (FLok.cons ⟨RX8, TX8, 19, tyX8, rfl, iX8, tyX8_ok, nmX8, by decide, mw_290, ⟨rfl, rfl⟩⟩ (FLok.cons ⟨RX8, TX8, 19, tyX8, rfl, iX8, tyX8_ok, nmX8, by decide, mw_260, ⟨rfl, rfl⟩⟩ (FLok.cons ⟨RX9, TX9, 5, tyX9, rfl, iX9, tyX9_ok, nmX9, by decide, mw_348, ⟨rfl, rfl⟩⟩ (FLok.cons ⟨RX5, TX5, 4, tyX5, rfl, iX5, tyX5_ok, nmX5, by decide, mw_418, ⟨rfl, rfl⟩⟩ (FLok.nil)))))))))))))))))))))))))))))))))))))))))))))))))))))))
def ml_X10T : XL := [(70, 165, 0, 1, 7), (74, 160, 0, 1, 4), (78, 159, 0, 0, 4), (82, 144, 0, 0, 4), (88, 142, 0, 0, 9), (98, 56, 0, 1, 10), (133, 72, 0, 1, 10), (136, 100, 0, 2, 0), (143, 71, 0, 1, 0), (150, 30, 0, 0, 6), (157, 29, 0, 2, 0), (163, 15, 1, 1, 99), (168, 20, 0, 1, 10), (177, 127, 0, 1, 8), (180, 135, 0, 1, 8), (187, 65, 0, 2, 3), (192, 18, 0, 0, 10), (215, 28, 0, 1, 8), (219, 26, 1, 2, 6), (223, 129, 0, 1, 6), (227, 121, 0, 0, 9), (230, 46, 0, 2, 6), (234, 41, 1, 1, 10), (237, 125, 0, 2, 6), (241, 11, 0, 5, 0), (247, 124, 0, 4, 6), (251, 24, 0, 2, 6), (258, 118, 0, 1, 9), (261, 2, 1, 1, 10), (270, 116, 0, 1, 5), (273, 114, 0, 2, 2), (287, 109, 0, 2, 1), (291, 106, 0, 1, 1), (295, 45, 0, 3, 2), (299, 96, 0, 1, 10), (302, 63, 0, 1, 1), (306, 66, 0, 1, 1), (309, 102, 0, 1, 8), (312, 98, 0, 1, 8), (315, 85, 0, 1, 0), (318, 95, 1, 2, 10), (321, 92, 0, 3, 10), (325, 90, 0, 4, 1), (329, 86, 0, 2, 10), (333, 82, 0, 3, 1), (349, 75, 0, 1, 1), (352, 70, 0, 2, 1), (356, 67, 0, 1, 10), (359, 60, 0, 2, 1), (362, 49, 0, 1, 8), (365, 44, 0, 1, 2), (371, 55, 0, 1, 8), (374, 53, 0, 1, 2), (377, 50, 0, 1, 10), (392, 40, 0, 2, 0), (395, 36, 0, 1, 1), (398, 33, 1, 1, 10), (401, 22, 0, 2, 2), (418, 16, 0, 0, 10), (421, 7, 0, 1, 9), (427, 4, 0, 2, 5), (431, 1, 0, 2, 5)]
theorem ml_X10T_ok : MLok RX10 ysc ml_X10T := MLok.cons (Y := Yc165) rfl (ML1.v mw_460 mw_463 mw_2 (by decide +kernel) (by decide) mw_461 mw_462 rfl) (MLok.cons (Y := Yc160) rfl (ML1.v mw_472 mw_475 mw_10 (by decide +kernel) (by decide) mw_473 mw_474 rfl) (MLok.cons (Y := Yc159) rfl (ML1.v mw_497 mw_500 mw_10 (by decide +kernel) (by decide) mw_498 mw_499 rfl) (MLok.cons (Y := Yc144) rfl (ML1.v mw_501 mw_504 mw_10 (by decide +kernel) (by decide) mw_502 mw_503 rfl) (MLok.cons (Y := Yc142) rfl (ML1.v mw_634 mw_637 mw_6 (by decide +kernel) (by decide) mw_635 mw_636 rfl) (MLok.cons (Y := Yc56) rfl (ML1.v mw_650 mw_653 mw_1 (by decide +kernel) (by decide) mw_652 ms_14 rfl) (MLok.cons (Y := Yc72) rfl (ML1.v mw_658 mw_661 mw_1 (by decide +kernel) (by decide) mw_660 ms_15 rfl) (MLok.cons (Y := Yc100) rfl (ML1.v mw_662 mw_597 mw_8 (by decide +kernel) (by decide) mw_595 mw_596 rfl) (MLok.cons (Y := Yc71) rfl (ML1.v mw_663 mw_601 mw_8 (by decide +kernel) (by decide) mw_599 mw_600 rfl) (MLok.cons (Y := Yc30) rfl (ML1.v mw_668 mw_671 mw_4 (by decide +kernel) (by decide) mw_669 mw_670 rfl) (MLok.cons (Y := Yc29) rfl (ML1.v mw_672 mw_675 mw_8 (by decide +kernel) (by decide) mw_673 mw_674 rfl) (MLok.cons (Y := Yc15) rfl (ML1.s mw_676 mw_678 mw_18 (by decide +kernel) (by decide) mw_677) (MLok.cons (Y := Yc20) rfl (ML1.v mw_686 mw_689 mw_1 (by decide +kernel) (by decide) mw_688 ms_16 rfl) (MLok.cons (Y := Yc127) rfl (ML1.v mw_694 mw_697 mw_7 (by decide +kernel) (by decide) mw_695 mw_696 rfl) (MLok.cons (Y := Yc135) rfl (ML1.v mw_706 mw_709 mw_7 (by decide +kernel) (by decide) mw_707 mw_708 rfl) (MLok.cons (Y := Yc65) rfl (ML1.v mw_714 mw_717 mw_9 (by decide +kernel) (by decide) mw_715 mw_716 rfl) (MLok.cons (Y := Yc18) rfl (ML1.v mw_723 mw_726 mw_1 (by decide +kernel) (by decide) mw_725 ms_17 rfl) (MLok.cons (Y := Yc28) rfl (ML1.v mw_732 mw_735 mw_7 (by decide +kernel) (by decide) mw_733 mw_734 rfl) (MLok.cons (Y := Yc26) rfl (ML1.s mw_742 mw_744 mw_4 (by decide +kernel) (by decide) mw_743) (MLok.cons (Y := Yc129) rfl (ML1.v mw_750 mw_753 mw_4 (by decide +kernel) (by decide) mw_751 mw_752 rfl) (MLok.cons (Y := Yc121) rfl (ML1.v mw_763 mw_766 mw_6 (by decide +kernel) (by decide) mw_764 mw_765 rfl) (MLok.cons (Y := Yc46) rfl (ML1.v mw_771 mw_774 mw_4 (by decide +kernel) (by decide) mw_772 mw_773 rfl) (MLok.cons (Y := Yc41) rfl (ML1.s mw_787 mw_789 mw_1 (by decide +kernel) (by decide) mw_788) (MLok.cons (Y := Yc125) rfl (ML1.v mw_790 mw_793 mw_4 (by decide +kernel) (by decide) mw_791 mw_792 rfl) (MLok.cons (Y := Yc11) rfl (ML1.v mw_794 mw_605 mw_8 (by decide +kernel) (by decide) mw_603 mw_604 rfl) (MLok.cons (Y := Yc124) rfl (ML1.v mw_795 mw_798 mw_4 (by decide +kernel) (by decide) mw_796 mw_797 rfl) (MLok.cons (Y := Yc24) rfl (ML1.v mw_803 mw_806 mw_4 (by decide +kernel) (by decide) mw_804 mw_805 rfl) (MLok.cons (Y := Yc118) rfl (ML1.v mw_827 mw_830 mw_6 (by decide +kernel) (by decide) mw_828 mw_829 rfl) (MLok.cons (Y := Yc2) rfl (ML1.s mw_839 mw_841 mw_1 (by decide +kernel) (by decide) mw_840) (MLok.cons (Y := Yc116) rfl (ML1.v mw_843 mw_846 mw_11 (by decide +kernel) (by decide) mw_844 mw_845 rfl) (MLok.cons (Y := Yc114) rfl (ML1.v mw_847 mw_850 mw_3 (by decide +kernel) (by decide) mw_848 mw_849 rfl) (MLok.cons (Y := Yc109) rfl (ML1.v mw_874 mw_877 mw_5 (by decide +kernel) (by decide) mw_875 mw_876 rfl) (MLok.cons (Y := Yc106) rfl (ML1.v mw_917 mw_920 mw_5 (by decide +kernel) (by decide) mw_918 mw_919 rfl) (MLok.cons (Y := Yc45) rfl (ML1.v mw_924 mw_900 mw_3 (by decide +kernel) (by decide) mw_898 mw_899 rfl) (MLok.cons (Y := Yc96) rfl (ML1.v mw_933 mw_936 mw_1 (by decide +kernel) (by decide) mw_935 ms_23 rfl) (MLok.cons (Y := Yc63) rfl (ML1.v mw_937 mw_881 mw_5 (by decide +kernel) (by decide) mw_879 mw_880 rfl) (MLok.cons (Y := Yc66) rfl (ML1.v mw_938 mw_893 mw_5 (by decide +kernel) (by decide) mw_891 mw_892 rfl) (MLok.cons (Y := Yc102) rfl (ML1.v mw_943 mw_946 mw_7 (by decide +kernel) (by decide) mw_944 mw_945 rfl) (MLok.cons (Y := Yc98) rfl (ML1.v mw_966 mw_969 mw_7 (by decide +kernel) (by decide) mw_967 mw_968 rfl) (MLok.cons (Y := Yc85) rfl (ML1.v mw_975 mw_978 mw_8 (by decide +kernel) (by decide) mw_976 mw_977 rfl) (MLok.cons (Y := Yc95) rfl (ML1.s mw_979 mw_981 mw_1 (by decide +kernel) (by decide) mw_980) (MLok.cons (Y := Yc92) rfl (ML1.v mw_986 mw_989 mw_1 (by decide +kernel) (by decide) mw_988 ms_25 rfl) (MLok.cons (Y := Yc90) rfl (ML1.v mw_990 mw_993 mw_5 (by decide +kernel) (by decide) mw_991 mw_992 rfl) (MLok.cons (Y := Yc86) rfl (ML1.v mw_1008 mw_1011 mw_1 (by decide +kernel) (by decide) mw_1010 ms_26 rfl) (MLok.cons (Y := Yc82) rfl (ML1.v mw_1012 mw_1015 mw_5 (by decide +kernel) (by decide) mw_1013 mw_1014 rfl) (MLok.cons (Y := Yc75) rfl (ML1.v mw_1036 mw_1039 mw_5 (by decide +kernel) (by decide) mw_1037 mw_1038 rfl) (MLok.cons (Y := Yc70) rfl (ML1.v mw_1066 mw_1069 mw_5 (by decide +kernel) (by decide) mw_1067 mw_1068 rfl) (MLok.cons (Y := Yc67) rfl (ML1.v mw_1078 mw_1081 mw_1 (by decide +kernel) (by decide) mw_1080 ms_30 rfl) (MLok.cons (Y := Yc60) rfl (ML1.v mw_1082 mw_1085 mw_5 (by decide +kernel) (by decide) mw_1083 mw_1084 rfl) (MLok.cons (Y := Yc49) rfl (ML1.v mw_1086 mw_778 mw_7 (by decide +kernel) (by decide) mw_776 mw_777 rfl) (MLok.cons (Y := Yc44) rfl (ML1.v mw_1095 mw_1098 mw_3 (by decide +kernel) (by decide) mw_1096 mw_1097 rfl) (MLok.cons (Y := Yc55) rfl (ML1.v mw_1108 mw_1111 mw_7 (by decide +kernel) (by decide) mw_1109 mw_1110 rfl) (MLok.cons (Y := Yc53) rfl (ML1.v mw_1116 mw_1119 mw_3 (by decide +kernel) (by decide) mw_1117 mw_1118 rfl) (MLok.cons (Y := Yc50) rfl (ML1.v mw_1124 mw_1127 mw_1 (by decide +kernel) (by decide) mw_1126 ms_31 rfl) (MLok.cons (Y := Yc40) rfl (ML1.v mw_1141 mw_956 mw_8 (by decide +kernel) (by decide) mw_954 mw_955 rfl) (MLok.cons (Y := Yc36) rfl (ML1.v mw_1146 mw_1149 mw_5 (by decide +kernel) (by decide) mw_1147 mw_1148 rfl) (MLok.cons (Y := Yc33) rfl (ML1.s mw_1159 mw_1161 mw_1 (by decide +kernel) (by decide) mw_1160) (MLok.cons (Y := Yc22) rfl (ML1.v mw_1163 mw_1166 mw_3 (by decide +kernel) (by decide) mw_1164 mw_1165 rfl) (MLok.cons (Y := Yc16) rfl (ML1.v mw_1193 mw_1196 mw_1 (by decide +kernel) (by decide) mw_1195 ms_34 rfl) (MLok.cons (Y := Yc7) rfl (ML1.v mw_1201 mw_1204 mw_6 (by decide +kernel) (by decide) mw_1202 mw_1203 rfl) (MLok.cons (Y := Yc4) rfl (ML1.v mw_1230 mw_1233 mw_11 (by decide +kernel) (by decide) mw_1231 mw_1232 rfl) (MLok.cons (Y := Yc1) rfl (ML1.v mw_1241 mw_1244 mw_11 (by decide +kernel) (by decide) mw_1242 mw_1243 rfl) (MLok.nil))))))))))))))))))))))))))))))))))))))))))))))))))))))))))))))
def ac_X10T : Option Nat := none
theorem ac_X10T_ok : ∀ i, ac_X10T = some i → ACok RX10 i := fun i h => by cases h
def M_ctown : XM := ([pR 0], [pI 0 1400, pI 0 1400, pI 0 1400, pI (-2147483648) 2147483647, pI 0 4, pI 0 3, pR 1000, pI 0 4, pI 0 8, pI 0 4, pI 0 12, pI 0 40, pI (-1) 100, pI 0 1, pI 0 1, pI 0 1, pI 0 1, pI 0 3, pI 0 60, pI 0 1, pI 0 3, pI 0 60, pI 0 1, pI 0 3, pI 0 60, pI 0 1, pI 0 3, pI 0 60], [([(0, 0), (0, 1400), (0, 1400), (0, 1400), ((-2147483648), 2147483647), (0, 4), (0, 3), (0, 0), (0, 4), (0, 8), (0, 4), (0, 12), (0, 40), ((-1), 100), (0, 1), (0, 1), (0, 1), (0, 1), (0, 3), (0, 60), (0, 1), (0, 3), (0, 60), (0, 1), (0, 3), (0, 60), (0, 1), (0, 3), (0, 60)], some (pI (-4) (-4)), [pE 1 0, pI 0 1400, pI 0 1400, pI (-2147483648) 2147483647, pI 0 4, pI 1 3, pR 33, pI 0 4, pI 0 8, pI 0 4, pI 0 12, pE 12 0, pE 13 0, pE 14 0, pE 15 0, pE 16 0, pE 17 0, pE 18 0, pE 19 0, pE 20 0, pE 21 0, pE 22 0, pE 23 0, pE 24 0, pE 25 0, pE 26 0, pE 27 0, pE 28 0], [])], [])
def N_ctown : List (Nat × List XD) := [(16, [(16, [(0, 0), (0, 1400), (0, 1400), (0, 1400), ((-2147483648), 2147483647), (0, 4), (0, 3), (0, 0), (0, 4), (0, 8), (0, 4), (0, 12), (0, 40), ((-1), 100), (0, 1), (0, 1), (0, 1), (0, 1), (0, 3), (0, 60), (0, 1), (0, 3), (0, 60), (0, 1), (0, 3), (0, 60), (0, 1), (0, 3), (0, 60)], [(0, pR 0), (1, pI 0 1400)], [pE 1 0, pI 0 1400, pI 0 1400, pI (-2147483648) 2147483647, pI 0 4, pI 0 3, pR 33, pI 0 4, pI 0 8, pI 0 4, pI 0 12, pE 12 0, pE 13 0, pE 14 0, pE 15 0, pE 16 0, pE 17 0, pE 18 0, pE 19 0, pE 20 0, pE 21 0, pE 22 0, pE 23 0, pE 24 0, pE 25 0, pE 26 0, pE 27 0, pE 28 0], 2802, [0, (-1), 0, 0, 0, 0, 0, 0, 0, 0, 0, 0, 0, 0, 0, 0, 0, 0, 0, 0, 0, 0, 0, 0, 0, 0, 0, 0, 0, 0], [])]), (46, [(46, [(0, 0), (0, 1400), (0, 1400), (0, 1400), ((-2147483648), 2147483647), (0, 4), (0, 3), (0, 0), (0, 4), (0, 8), (0, 4), (0, 12), (0, 40), ((-1), 100), (0, 1), (0, 1), (0, 1), (0, 1), (0, 3), (0, 60), (0, 1), (0, 3), (0, 60), (0, 1), (0, 3), (0, 60), (0, 1), (0, 3), (0, 60)], [(0, pR 0)], [pE 1 0, pI 0 1400, pI 0 1400, pI (-2147483648) 2147483647, pI 0 4, pI 0 3, pR 33, pI 0 4, pI 0 8, pI 0 4, pI 0 12, pE 12 0, pE 13 0, pE 14 0, pE 15 0, pE 16 0, pE 17 0, pE 18 0, pE 19 0, pE 20 0, pE 21 0, pE 22 0, pE 23 0, pE 24 0, pE 25 0, pE 26 0, pE 27 0, pE 28 0], 1, [0, 0, 0, 0, 0, 0, 0, 0, 0, 0, 0, 0, 0, 0, 0, 0, 0, 0, 0, 0, 0, 0, 0, 0, 0, 0, 0, 0, 0], [])])]
abbrev ce_ctown : List (Nat × XM) := [(144, Mc266), (159, Mc267), (160, Mc272)]
theorem ce_ctown_ok (b : Bool) (l : Launch) (xt : XX) (D : va_G) (t : Nat → ClassId) (lo : Nat) (hw : TWX (Ec b) xt lo ∧ STok (Ec b) xt t) : ∀ q ∈ ce_ctown, ∃ Y, ysc[q.1]? = some Y ∧ HOLDS l (Ec b) xt D t lo Y q.2 := List.forall_mem_cons.mpr ⟨⟨Yc144, rfl, Hc266 b l xt D t lo hw trivial⟩, List.forall_mem_cons.mpr ⟨⟨Yc159, rfl, Hc267 b l xt D t lo hw trivial⟩, List.forall_mem_cons.mpr ⟨⟨Yc160, rfl, Hc272 b l xt D t lo hw trivial⟩, fun _ h => absurd h List.not_mem_nil⟩⟩⟩
abbrev ce_ctownB : List (Nat × XM) := [(142, Mc203)]
theorem ce_ctownB_ok (b : Bool) (l : Launch) (xt : XX) (D : va_G) (t : Nat → ClassId) (lo : Nat) (hw : TWX (Ec b) xt lo ∧ STok (Ec b) xt t) : ∀ q ∈ ce_ctownB, ∃ Y, ysc[q.1]? = some Y ∧ HOLDS l (Ec b) xt D t lo Y q.2 := List.forall_mem_cons.mpr ⟨⟨Yc142, rfl, Hc203 b l xt D t lo hw trivial⟩, fun _ h => absurd h List.not_mem_nil⟩
abbrev g_ctown : XG := ((q_X10T, fl_X10T, ml_X10T, ac_X10T), (2, 8), (depc, ce_ctown))
abbrev g_ctownB : XG := ((q_X10T, fl_X10T, ml_X10T, ac_X10T), (2, 8), (depc, ce_ctownB))
def vinR (gi : List XI) (V : List XV) (ps : List XP) : Bool := (List.range ps.length).all (fun j => match ps[j]? with
  | some P => (match P with
    | .inr (.inl k) => isR k V[j]?
    | P => ibx P (vbx gi V j))
  | none => false)
def isG (g : Nat) (o : Option XV) : Bool := match o with
  | some x => (match x with
    | .inl (.inl n) => (match n.1 with
      | some h => h == g && n.2 == 0
      | none => false)
    | _ => false)
  | none => false
theorem isG_ok {g : Nat} {o : Option XV} (h : isG g o = true) : o = some (.inl (.inl (some g, 0))) := by
  unfold isG at h
  cases o with
  | none => cases h
  | some x =>
    match x, h with
    | .inl (.inl (some h', c)), h =>
      simp only [Bool.and_eq_true, beq_iff_eq] at h
      rw [h.1, h.2]
theorem vinR_ok {E : XE} {xt : XX} {lo : Nat} {Gs : List Int} {gi : List XI} {V : List XV} {ps : List XP} {f : Nat → va_E} (hg : gok Gs gi) (hV : VOK E xt lo Gs V f) (h : vinR gi V ps = true) : VR E xt lo ps f := by
  intro j o k P hj hP
  have hlt : j < ps.length := (List.getElem?_eq_some_iff.mp hP).1
  have hb := List.all_eq_true.mp h j (List.mem_range.mpr hlt)
  rw [hP] at hb
  have num : ibx P (vbx gi V j) = true → ∃ v, cellv (f (lo + o)) k = some v ∧ pok (xB E lo xt) P v (gv v) := by
    intro hb
    simp only [ibx] at hb
    cases hx : vbx gi V j with
    | none => rw [hx] at hb; cases hb
    | some q =>
      obtain ⟨u, w⟩ := q
      rw [hx] at hb
      obtain ⟨a, b, e1, e2, e3⟩ := inb_ok hb
      obtain ⟨i, v1, v2, v3, v4⟩ := vbx_ok hg hV hj hx
      subst e1
      exact ⟨_, v1, i, rfl, rfl, by show a ≤ i.toInt; omega, by show i.toInt ≤ b; omega⟩
  match P, hb, num with
  | .inr (.inl κ), hb, _ =>
    obtain ⟨v, v1, a, rfl, v2⟩ := hV j o k _ hj (isR_ok hb)
    exact ⟨_, v1, ⟨a, rfl, v2⟩, rfl⟩
  | .inl (.inl p), hb, num => exact num hb
  | .inl (.inr p), hb, num => exact num hb
  | .inr (.inr p), hb, num => exact num hb
def kgB (na : Nat) (V : List XV) : Bool := (List.range 15).all (fun i => isG (na + (13 + i)) V[13 + i]?)
theorem kg_ok {E : XE} {xt : XX} {lo : Nat} {G0 r zs zs' : List Int} {V : List XV} {f f0 : Nat → va_E} (hV : VOK E xt lo (G0 ++ r) V f) (hG : G0 = zs ++ (cvs E lo f0 ++ zs')) (h : kgB zs.length V = true) : ∀ (j o k : Nat), 13 ≤ j → j < 28 → E.2.2.2[j]? = some (o, k) → cv f (lo + o) k = cv f0 (lo + o) k := by
  intro j o k h1 h2 hj
  obtain ⟨i, rfl⟩ : ∃ i, j = 13 + i := ⟨j - 13, by omega⟩
  have := isG_ok (List.all_eq_true.mp h i (List.mem_range.mpr (by omega)))
  obtain ⟨v, v1, x, rfl, v2⟩ := hV (13 + i) o k _ hj this
  have hc := cvs_at (zs := zs) (f := f0) (lo := lo) hj
  have hlt := (List.getElem?_eq_some_iff.mp hc).1
  have hg : (G0 ++ r)[zs.length + (13 + i)]? = some (cv f0 (lo + o) k) := by
    rw [hG, ← List.append_assoc, List.append_assoc, List.getElem?_append_left hlt]
    exact hc
  simp only [xval, hg, Option.map_some, Option.some.injEq] at v2
  rw [cv_of v1]
  show x.toInt = _
  omega
theorem SAT_ptR {E : XE} {xt : XX} {D : va_G} {t : Nat → ClassId} {lo : Nat} {f0 f : Nat → va_E} {A : Nat → Prop} {s : State} {nl pc : Nat} {H : Heap} {locs : List Loc} {ls : Array Slot} {VC LP : List XP} {vs : List Value} {zs : List Int} (hl : E.2.2.2.length = VC.length) (hV : VR E xt lo VC f) (ha : AOK (xB E lo xt) LP vs zs) (hls : lv_has ls nl (lv_args 0 vs)) (hT : TYP E xt t lo f) (hF : FZ E xt lo f0 f) (hH : HX D t lo E.2.1.length f A s H locs) : SAT E xt D t lo (cvs E lo f ++ zs) f0 A s nl (pt pc VC LP) H locs ls [] := by
  have hA : AOK (xB E lo xt) VC (E.2.2.2.map (fun q => (cellv (f (lo + q.1)) q.2).getD (.int 0))) (cvs E lo f) := aok_vr _ _ hl hV
  have hlen := (AOK_len hA).1
  refine ⟨cvs E lo f ++ zs, f, lv_args 0 vs, ⟨[], by simp⟩, gok_ent (AOK_app hA ha), hls, LR_args 0 VC.length ha (fun j z hz => ?_), trivial, fun j o k x h1 h2 => ?_, hT, hF, hH⟩
  · rw [← hlen, List.getElem?_append_right (by omega), show (cvs E lo f).length + j - (cvs E lo f).length = j by omega]
    exact hz
  · obtain ⟨v, q1, q2⟩ := xvs_ok (G := cvs E lo f ++ zs) 0 hA (fun j z hz => by
      rw [Nat.zero_add, List.getElem?_append_left (List.getElem?_eq_some_iff.mp hz).1]
      exact hz) j x h2
    refine ⟨v, ?_, q2⟩
    rw [List.getElem?_map, h1] at q1
    simp only [Option.map_some, Option.some.injEq] at q1
    have hlt : j < VC.length := by rw [← hl]; exact (List.getElem?_eq_some_iff.mp h1).1
    obtain ⟨v', c1, -⟩ := hV j o k _ h1 (List.getElem?_eq_getElem hlt)
    rw [c1] at q1 ⊢
    exact congrArg some q1
theorem bx_putr {p : Program} {l : Launch} {e : Env} {R : Room} {s : State} {m : MethodId} {args : Array Value} {below : List Frame} {meth : Method} {c : Code} {H : Heap} {locs : List Loc} {cells slots : Nat} {Q : State → Prop} {cc : ByteArray} {own : String} {nl : Nat} {ret : Option FieldType} {pc : Nat} {ls : Array Slot} {rest : List Value} {D : va_G} {t : Nat → ClassId} {lo n : Nat} {f : Nat → va_E} {A : Nat → Prop} {a : Nat} {fl : XF} (hF : FLok own fl) {i ci k : Nat} (hi : xfl fl i = some (ci, k, 3)) (X : CX p s m args meth c own cc nl ret) (h : HX D t lo n f A s H locs) {fs : List Value} (ha : px_at lo n f a (.inr (ci, fs))) (hk : k < fs.length) {v : Nat} (hdg : decode cc pc = .ok (.putfield i, 3))
    (kk : ∀ (H1 : Heap) (locs1 : List Loc), HX D t lo n (va_up f a (.inr (ci, fs.set k (.ref v)))) A s H1 locs1 → W p l e R s m args below meth c H1 locs1 cells slots Q (F0 m (pc + 3) ls rest)) : W p l e R s m args below meth c H locs cells slots Q (F0 m pc ls (.ref v :: .ref a :: rest)) := by
  obtain ⟨C, TT, N, ty0, u1, u2, u3, u4, u5, u6, u7⟩ := hF i ci k 3 hi
  obtain ⟨⟨C', e1⟩, e2⟩ := u7
  exact px_putf X h ha u1 u2 u3 u4 k u5 u6 rfl e2 (by rw [e1]; rfl) (by rw [e1]; rfl) hk hdg kk
def VG33 : List XP := VGc.set 6 (pR 33)
def VG16 : List XP := VGc.set 6 (pR 16)
def P_ctown (y : XC) : Bool := Nat.beq y.1 59 && y.2.2.2.1.isEmpty && isR 0 (xget y.2.2.1 0) && vinR y.2.1 y.2.2.2.2 VS1 && kgB 1 y.2.2.2.2
theorem chk_ctown (b : Bool) : xchkP (Ec b) g_ctown M_ctown 0 cX10_town N_ctown [] P_ctown 23 = true := by cases b <;> decide +kernel
def P_ctownB (y : XC) : Bool := Nat.beq y.1 92 && y.2.2.2.1.isEmpty && isR 0 (xget y.2.2.1 0) && vinR y.2.1 y.2.2.2.2 VG16 && kgB 0 y.2.2.2.2
theorem run_ctownB (b : Bool) : xrunN (Ec b) g_ctownB ([], [], [], []) 9 cX10_town [] [] P_ctownB none 20 (pt 77 VS2 [pR 0]) = true := by cases b <;> decide +kernel
theorem into_ok {b : Bool} {t : Nat → ClassId} {lo : Nat} {f : Nat → va_E} {q : Nat} (hq : q = 16 ∨ q = 33) (h : VR (Ec b) (xtc t lo) lo (VGc.set 6 (pR q)) f) : VR (Ec b) (xtc t lo) lo VGc f := by
  intro j o k P hj hP
  by_cases c : j = 6
  · subst c
    obtain ⟨v, v1, ⟨a, rfl, hB⟩, v3⟩ := h 6 o k (pR q) hj (by rw [List.getElem?_set_self (by decide +kernel)])
    cases (show some (pR 1000) = some P from hP)
    refine ⟨_, v1, ⟨a, rfl, ?_⟩, rfl⟩
    have hK : ∃ y, (Ec b).1[q]? = some y := ⟨_, List.getElem?_eq_getElem (show q < (Ec b).1.length by rw [Kc_len]; omega)⟩
    obtain ⟨y, hy⟩ := hK
    obtain ⟨i, rfl, hi⟩ := xB_in hB hy
    have hlt : i < 304 := by rw [← Ec_len b]; exact (List.getElem?_eq_some_iff.mp hi).1
    have h0 : (List.range 304).all (fun i => decide ((Ec b).2.1[i]? = some 16 → (i = 16 ∨ i = 72)) && decide ((Ec b).2.1[i]? = some 33 → (i = 16 ∨ i = 72))) = true := by cases b <;> decide +kernel
    have := List.all_eq_true.mp h0 i (List.mem_range.mpr hlt)
    simp only [Bool.and_eq_true, decide_eq_true_eq] at this
    have hh : i = 16 ∨ i = 72 := by
      rcases hq with rfl | rfl
      · exact this.1 hi
      · exact this.2 hi
    unfold xB
    rw [show (Ec b).1[1000]? = none from List.getElem?_eq_none (by rw [Kc_len]; decide)]
    exact Or.inl ⟨rfl, by omega⟩
  · exact h j o k P hj (by rw [List.getElem?_set_ne (Ne.symm c)]; exact hP)
theorem trc_13 (b b' : Bool) : ∀ j, 13 ≤ j → (Ec b).2.2.2[j]? = (Ec b').2.2.2[j]? := by
  intro j hj
  by_cases h : j < 28
  · have h0 : (List.range 28).all (fun j => decide (13 ≤ j → (Ec b).2.2.2[j]? = (Ec b').2.2.2[j]?)) = true := by cases b <;> cases b' <;> decide +kernel
    exact of_decide_eq_true (List.all_eq_true.mp h0 j (List.mem_range.mpr h)) hj
  · rw [List.getElem?_eq_none (by rw [trc_len]; omega), List.getElem?_eq_none (by rw [trc_len]; omega)]
abbrev YtownC : XY := (yX10_town, cX10_town, 2, some .int, 8)
abbrev TCZ (b : Bool) (t : Nat → ClassId) (lo : Nat) (f : Nat → va_E) : Option Value → (Nat → va_E) → Prop := fun ov f2 => RTy 0 ov ∧ (∃ b', IC b' t lo f2) ∧ KCL b lo f f2
theorem ctown_V : M_ctown.2.1 = VGc := by decide +kernel
theorem ctown_x : M_ctown.2.2.1.all (fun o => exLR o VG33 o.2.2.1 && ansB 0 o && kcB 1 o.2.2.1) = true := by decide +kernel
theorem fl_X10T_w : xfl fl_X10T 45 = some (10, 5, 3) := by decide +kernel
theorem fl_X10T_s : xfl fl_X10T 49 = some (10, 6, 3) := by decide +kernel
theorem C_town (b : Bool) (l : Launch) (D : va_G) (t : Nat → ClassId) (lo : Nat) {f : Nat → va_E} (hI : IC b t lo f) : MetZ l YtownC D t lo (Ec b).2.1.length f [.ref lo] (TCZ b t lo f) := by
  have hw := twxc b t lo
  have hxB : xB (Ec b) lo (xtc t lo) 0 lo := xB_of (i := 0) (kdc0 b) (rfl : (Ec b).1[0]? = some _)
  have hnb := Ec_len b
  have hnb' := Ec_len (!b)
  refine stopZ (g := g_ctown) (rt := 0) (M := M_ctown) (E := Ec b) (xt := xtc t lo) (G0 := [0] ++ cvs (Ec b) lo f) (ys := ysc) (by decide +kernel) rfl rfl rfl ⟨hw, q_X10T_ok, fl_X10T_ok, ml_X10T_ok, ac_X10T_ok, depc_ok, ce_ctown_ok b l _ D t lo hw⟩ (chk_ctown b) (ent_ofR (zs := [0]) (by rw [ctown_V, trc_len, VGc_len]) (by rw [ctown_V]; exact hI.2) ⟨⟨⟨lo, rfl, hxB⟩, rfl⟩, trivial⟩ rfl) hI.1 trivial (fun ov f2 hz => ?_) (fun p e s m below meth c X y hy Gs f2 lv H locs ls st hGs hg hl hL hS hV hT hF hH => ?_)
  · obtain ⟨o, ho, hO, hT, hF⟩ := hz
    have hb := List.all_eq_true.mp ctown_x o ho
    simp only [Bool.and_eq_true] at hb
    exact ⟨ansB_ok hO hb.1.2, ⟨b, hT, into_ok (Or.inr rfl) (VR_exit hO hb.1.1)⟩, KC_of hO hb.2⟩
  · unfold P_ctown at hy
    simp only [Bool.and_eq_true, List.isEmpty_iff] at hy
    obtain ⟨⟨⟨⟨y1, y2⟩, y3⟩, y4⟩, y5⟩ := hy
    rw [Nat.eq_of_beq_eq_true y1]
    rw [y2] at hS
    have est : st = [] := by
      match st, hS with
      | [], _ => rfl
    subst est
    obtain ⟨v0, z1, a0, rfl, z2⟩ := LR_at hL (isR_ok y3)
    have ea : a0 = lo := by
      obtain ⟨i0, rfl, z3⟩ := xB_in z2 (rfl : (Ec b).1[0]? = some _)
      have hlt : i0 < 304 := by rw [← Ec_len b]; exact (List.getElem?_eq_some_iff.mp z3).1
      have h0 : (List.range 304).all (fun i => decide ((Ec b).2.1[i]? = some 0 → i = 0)) = true := by cases b <;> decide +kernel
      have := of_decide_eq_true (List.all_eq_true.mp h0 i0 (List.mem_range.mpr hlt)) z3
      omega
    subst ea
    have hl0 : ls[0]? = some (.val (.ref a0)) := hl.2.2 _ z1
    have hl : lv_has ls 2 [(0, .ref a0)] := ⟨hl.1, hl.2.1, fun q hq => by cases List.mem_singleton.mp hq; exact hl0⟩
    have VR1 := vinR_ok hg hV y4
    obtain ⟨r, hr⟩ := hGs
    subst hr
    have K1 := kg_ok (zs := [0]) (zs' := []) (f0 := f) hV (by simp) y5
    obtain ⟨fs, e1, e2, e3⟩ := typ_at hT (i := 0) (k := 0) (kdc0 b) (rfl : (Ec b).1[0]? = some _)
    have e1 : f2 a0 = .inr (10, fs) := e1
    have e2 : fs.length = 8 := e2
    obtain ⟨_, w5, xa, rfl, xb⟩ := e3 5 (tR 15) rfl
    obtain ⟨_, w6, ya, rfl, yb⟩ := e3 6 (tR 32) rfl
    obtain ⟨T3, V3⟩ := IC_swap hT VR1 e1 w5 w6
    have k0 : px_at a0 (Ec b).2.1.length f2 a0 (.inr (10, fs)) := ⟨⟨by omega, by omega⟩, e1⟩
    refine lv_aload_n X.1 X.2.1 (show decode cX10_town 59 = .ok (.aload_n 0, 1) by decide +kernel) rfl hl0 ?_
    refine bx_get fl_X10T_ok (i := 45) fl_X10T_w X hH k0 w5 (show decode cX10_town 60 = .ok (.getfield 45, 3) by decide +kernel) ?_
    refine lv_astore_n X.1 X.2.1 (show decode cX10_town 63 = .ok (.astore_n 1, 1) by decide +kernel) rfl hl (by decide) rfl (fun ls hl => ?_)
    have hl : lv_has ls 2 [(1, .ref xa), (0, .ref a0)] := hl
    refine lv_aload_n X.1 X.2.1 (show decode cX10_town 64 = .ok (.aload_n 0, 1) by decide +kernel) rfl (lv_at hl 1 rfl) ?_
    refine lv_aload_n X.1 X.2.1 (show decode cX10_town 65 = .ok (.aload_n 0, 1) by decide +kernel) rfl (lv_at hl 1 rfl) ?_
    refine bx_get fl_X10T_ok (i := 49) fl_X10T_s X hH k0 w6 (show decode cX10_town 66 = .ok (.getfield 49, 3) by decide +kernel) ?_
    refine bx_putr fl_X10T_ok (i := 45) fl_X10T_w X hH k0 (by omega) (show decode cX10_town 69 = .ok (.putfield 45, 3) by decide +kernel) (fun H1 locs1 hH => ?_)
    refine lv_aload_n X.1 X.2.1 (show decode cX10_town 72 = .ok (.aload_n 0, 1) by decide +kernel) rfl (lv_at hl 1 rfl) ?_
    refine lv_aload_n X.1 X.2.1 (show decode cX10_town 73 = .ok (.aload_n 1, 1) by decide +kernel) rfl (lv_at hl 0 rfl) ?_
    refine bx_putr fl_X10T_ok (i := 49) fl_X10T_s X hH ⟨⟨by omega, by omega⟩, va_up_self ..⟩ (by rw [List.length_set]; omega) (show decode cX10_town 74 = .ok (.putfield 49, 3) by decide +kernel) (fun H2 locs2 hH => ?_)
    rw [va_up_up] at hH
    generalize hf3 : va_up f2 a0 (.inr (10, (fs.set 5 (.ref ya)).set 6 (.ref xa))) = f3 at hH T3 V3
    have K3 : ∀ (j o k : Nat), 13 ≤ j → j < 28 → (Ec (!b)).2.2.2[j]? = some (o, k) → cv f3 (a0 + o) k = cv f (a0 + o) k := by
      intro j o k h1 h2 hj
      rw [trc_13 (!b) b j h1] at hj
      rw [← K1 j o k h1 h2 hj, ← hf3]
      have h0 : (List.range 28).all (fun j => decide (13 ≤ j → ((Ec b).2.2.2.getD j (0, 0)).1 ≠ 0)) = true := by cases b <;> decide +kernel
      have := of_decide_eq_true (List.all_eq_true.mp h0 j (List.mem_range.mpr h2)) h1
      rw [List.getD_eq_getElem?_getD, hj] at this
      have : o ≠ 0 := this
      unfold cv
      rw [va_up_ne _ _ (by omega)]
    have hw3 := twxc (!b) t a0
    have hxB3 : xB (Ec (!b)) a0 (xtc t a0) 0 a0 := xB_of (i := 0) (kdc0 (!b)) (rfl : (Ec (!b)).1[0]? = some _)
    rw [show (Ec b).2.1.length = (Ec (!b)).2.1.length by rw [hnb, hnb']] at hH ⊢
    refine segGO (g := g_ctownB) (fuel := 20) (x := pt 77 VS2 [pR 0]) (E := Ec (!b)) (xt := xtc t a0) (G0 := cvs (Ec (!b)) a0 f3 ++ [0]) (f0 := f3) (A := px_A a0 (Ec (!b)).2.1.length) (ys := ysc) X ⟨hw3, q_X10T_ok, fl_X10T_ok, ml_X10T_ok, ac_X10T_ok, depc_ok, ce_ctownB_ok (!b) l _ D t a0 hw3⟩ rfl ⟨Nat.le_refl _, Nat.le_refl _⟩ ⟨Nat.le_refl _, Nat.le_refl _⟩ (run_ctownB (!b)) (fun y hy => ?_) H2 locs2 ls [] (SAT_ptR (LP := [pR 0]) (vs := [.ref a0]) (by rw [trc_len, VS2_len]) V3 ⟨⟨⟨a0, rfl, hxB3⟩, rfl⟩, trivial⟩ (lv_less hl (fun q hq => List.mem_cons_of_mem _ hq)) T3 ⟨fun _ _ _ _ => rfl, trivial⟩ hH)
    intro H4 locs4 ls4 st4 hs4
    obtain ⟨Gs4, f4, lv4, hG4, hg4, hl4, hL4, hS4, hV4, hT4, hF4, hH4⟩ := hs4
    unfold P_ctownB at hy
    simp only [Bool.and_eq_true, List.isEmpty_iff] at hy
    obtain ⟨⟨⟨⟨y1, y2⟩, y3⟩, y4⟩, y5⟩ := hy
    rw [Nat.eq_of_beq_eq_true y1]
    rw [y2] at hS4
    have est : st4 = [] := by
      match st4, hS4 with
      | [], _ => rfl
    subst est
    obtain ⟨v0, zz1, a1, rfl, zz2⟩ := LR_at hL4 (isR_ok y3)
    have ea : a1 = a0 := by
      obtain ⟨i0, rfl, z3⟩ := xB_in zz2 (rfl : (Ec (!b)).1[0]? = some _)
      have hlt : i0 < 304 := by rw [← Ec_len (!b)]; exact (List.getElem?_eq_some_iff.mp z3).1
      have h0 : (List.range 304).all (fun i => decide ((Ec (!b)).2.1[i]? = some 0 → i = 0)) = true := by cases b <;> decide +kernel
      have := of_decide_eq_true (List.all_eq_true.mp h0 i0 (List.mem_range.mpr hlt)) z3
      omega
    subst ea
    have hl0 : ls4[0]? = some (.val (.ref a1)) := hl4.2.2 (0, .ref a1) zz1
    obtain ⟨r4, hr4⟩ := hG4
    subst hr4
    have K4 := kg_ok (zs := []) (zs' := [0]) (f0 := f3) hV4 (by simp) y5
    have J4 : IC (!b) t a1 f4 := ⟨hT4, into_ok (Or.inl rfl) (vinR_ok hg4 hV4 y4)⟩
    have KK : KCL b a1 f f4 := by
      intro j o k h1 hj
      have h2 : j < 28 := by rw [← trc_len b]; exact (List.getElem?_eq_some_iff.mp hj).1
      rw [trc_13 b (!b) j h1] at hj
      rw [K4 j o k h1 h2 hj]
      exact K3 j o k h1 h2 hj
    obtain ⟨fs4, q1, q2, q3⟩ := typ_at hT4 (i := 0) (k := 0) (kdc0 (!b)) (rfl : (Ec (!b)).1[0]? = some _)
    have q1 : f4 a1 = .inr (10, fs4) := q1
    obtain ⟨_, w5, wa, rfl, wb⟩ := q3 5 (tR 15) rfl
    obtain ⟨iw, rfl, kw⟩ := xB_in wb (rfl : (Ec (!b)).1[15]? = some _)
    obtain ⟨fw, s1, s2, s3⟩ := typ_at hT4 kw (rfl : (Ec (!b)).1[15]? = some _)
    obtain ⟨_, w1, ta, rfl, tb⟩ := s3 1 (tR 16) rfl
    obtain ⟨it, rfl, kt⟩ := xB_in tb (rfl : (Ec (!b)).1[16]? = some _)
    obtain ⟨ft, t1, t2, t3⟩ := typ_at hT4 kt (rfl : (Ec (!b)).1[16]? = some _)
    obtain ⟨_, w0, li, rfl, -⟩ := t3 0 _ rfl
    have lw : iw < (Ec (!b)).2.1.length := (List.getElem?_eq_some_iff.mp kw).1
    have lt' : it < (Ec (!b)).2.1.length := (List.getElem?_eq_some_iff.mp kt).1
    refine lv_aload_n X.1 X.2.1 (show decode cX10_town 92 = .ok (.aload_n 0, 1) by decide +kernel) rfl hl0 ?_
    refine bx_get fl_X10T_ok (i := 45) fl_X10T_w X hH4 ⟨⟨by omega, by omega⟩, q1⟩ w5 (show decode cX10_town 93 = .ok (.getfield 45, 3) by decide +kernel) ?_
    refine bx_get fl_X10T_ok (i := 54) (by decide +kernel : xfl fl_X10T 54 = some (9, 1, 4)) X hH4 ⟨⟨by omega, by omega⟩, s1⟩ w1 (show decode cX10_town 96 = .ok (.getfield 54, 3) by decide +kernel) ?_
    refine bx_get fl_X10T_ok (i := 90) (by decide +kernel : xfl fl_X10T 90 = some (8, 0, 0)) X hH4 ⟨⟨by omega, by omega⟩, t1⟩ w0 (show decode cX10_town 99 = .ok (.getfield 90, 3) by decide +kernel) ?_
    exact z_iret X hH4 ⟨⟨li, rfl⟩, ⟨!b, J4⟩, KK⟩ (show decode cX10_town 102 = .ok (.ireturn, 1) by decide +kernel)
