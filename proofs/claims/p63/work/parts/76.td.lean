/-! tables of a side, printed by wip/xg3/emit3.py -/
abbrev Yd0 : XY := (yX10_write, cX10_write, 6, (some .int), 1)
abbrev Yd1 : XY := (yX5_put, cX5_put, 4, none, 0)
abbrev Yd2 : XY := (yX10_isSlot, cX10_isSlot, 1, (some .boolean), 0)
abbrev Yd3 : XY := (yX10_row, cX10_row, 4, (some .int), 2)
abbrev Yd4 : XY := (yX5_begin, cX5_begin, 3, none, 1)
abbrev Yd5 : XY := (yJ7_fill_d0a16, cJ7_fill_d0a16, 5, none, 0)
abbrev Yd6 : XY := (yX10_back, cX10_back, 2, (some .int), 4)
abbrev Yd7 : XY := (yX9_copy, cX9_copy, 3, none, 3)
abbrev Yd8 : XY := (yX6_copy, cX6_copy, 2, none, 0)
abbrev Yd9 : XY := (yX8_copy, cX8_copy, 2, none, 2)
abbrev Yd10 : XY := (yX0_copy, cX0_copy, 3, none, 1)
abbrev Yd11 : XY := (yX0_put, cX0_put, 6, none, 0)
abbrev Yd12 : XY := (yX3_copy, cX3_copy, 2, none, 1)
abbrev Yd13 : XY := (yX10_image, cX10_image, 2, (some .int), 4)
abbrev Yd14 : XY := (yX10_plan, cX10_plan, 4, (some .long), 5)
abbrev Yd15 : XY := (yX2_runPlan, cX2_runPlan, 6, none, 4)
abbrev Yd16 : XY := (yX2_passOne, cX2_passOne, 6, none, 3)
abbrev Yd17 : XY := (yX6_passYear, cX6_passYear, 7, (some .boolean), 2)
abbrev Yd18 : XY := (yJ6_bitCount_0f7a4, cJ6_bitCount_0f7a4, 1, (some .int), 0)
abbrev Yd19 : XY := (yX6_unpaidOf, cX6_unpaidOf, 5, (some .long), 1)
abbrev Yd20 : XY := (yX6_priceAt, cX6_priceAt, 3, (some .long), 0)
abbrev Yd21 : XY := (yX8_duesOf, cX8_duesOf, 2, (some .int), 0)
abbrev Yd22 : XY := (yX8_wardsMissing, cX8_wardsMissing, 4, (some .int), 1)
abbrev Yd23 : XY := (yX0_notesIn, cX0_notesIn, 5, (some .int), 0)
abbrev Yd24 : XY := (yX6_ringing, cX6_ringing, 1, (some .int), 0)
abbrev Yd25 : XY := (yX2_meltPlanned, cX2_meltPlanned, 7, (some .int), 3)
abbrev Yd26 : XY := (yX6_takeDown, cX6_takeDown, 3, none, 2)
abbrev Yd27 : XY := (yX8_overOfSet, cX8_overOfSet, 4, (some .int), 1)
abbrev Yd28 : XY := (yX0_left, cX0_left, 2, (some .int), 0)
abbrev Yd29 : XY := (yX8_coinsOfSet, cX8_coinsOfSet, 4, (some .int), 1)
abbrev Yd30 : XY := (yX3_whyNot, cX3_whyNot, 3, (some .int), 1)
abbrev Yd31 : XY := (yX2_begin, cX2_begin, 2, none, 1)
abbrev Yd32 : XY := (yX5_isPlan, cX5_isPlan, 4, (some .boolean), 0)
abbrev Yd33 : XY := (yX10_noTown, cX10_noTown, 1, (some .boolean), 0)
abbrev Yd34 : XY := (yJ0_length_8abf5, cJ0_length_8abf5, 1, (some .int), 1)
abbrev Yd35 : XY := (yJ0_charAt_5068e, cJ0_charAt_5068e, 2, (some .char), 3)
abbrev ysd : List XY := [Yd0, Yd1, Yd2, Yd3, Yd4, Yd5, Yd6, Yd7, Yd8, Yd9, Yd10, Yd11, Yd12, Yd13, Yd14, Yd15, Yd16, Yd17, Yd18, Yd19, Yd20, Yd21, Yd22, Yd23, Yd24, Yd25, Yd26, Yd27, Yd28, Yd29, Yd30, Yd31, Yd32, Yd33, Yd34, Yd35]
def depd : List Nat := [1, 0, 0, 2, 1, 0, 4, 3, 0, 2, 1, 0, 1, 4, 5, 4, 3, 2, 0, 1, 0, 0, 1, 0, 0, 3, 2, 1, 0, 1, 1, 1, 0, 0, 1, 3]
theorem depd_ok : ∀ (no k : Nat) (Y : XY), depd[no]? = some k → ysd[no]? = some Y → Y.2.2.2.2 = k := dep_of rfl
def q_X10D : XQ := ([], [(197, (-2)), (268, (-6))])
theorem q_X10D_ok : XQok RX10 q_X10D := XQok.l (by decide +kernel) mw_731 (XQok.l (by decide +kernel) mw_842 (XQok.nil))
def fl_X10D : XF := [(18, 10, 1, 4), (24, 10, 2, 4), (31, 10, 3, 4), (45, 10, 5, 3), (54, 9, 1, 4), (90, 8, 0, 0), (121, 9, 2, 4), (195, 6, 1, 0), (202, 6, 5, 2), (209, 6, 4, 0), (212, 6, 7, 2), (264, 5, 0, 1), (277, 2, 0, 4), (278, 2, 4, 0), (281, 2, 7, 0), (284, 2, 5, 0), (424, 9, 0, 1), (430, 5, 2, 0)]
theorem fl_X10D_ok : FLok RX10 fl_X10D := FLok.cons ⟨RX10, TX10, 8, tyX10, rfl, iX10, tyX10_ok, nmX10, by decide, mw_432, trivial⟩ (FLok.cons ⟨RX10, TX10, 8, tyX10, rfl, iX10, tyX10_ok, nmX10, by decide, mw_433, trivial⟩ (FLok.cons ⟨RX10, TX10, 8, tyX10, rfl, iX10, tyX10_ok, nmX10, by decide, mw_434, trivial⟩ (FLok.cons ⟨RX10, TX10, 8, tyX10, rfl, iX10, tyX10_ok, nmX10, by decide, mw_436, ⟨⟨_, rfl⟩, rfl⟩⟩ (FLok.cons ⟨RX9, TX9, 5, tyX9, rfl, iX9, tyX9_ok, nmX9, by decide, mw_350, trivial⟩ (FLok.cons ⟨RX8, TX8, 19, tyX8, rfl, iX8, tyX8_ok, nmX8, by decide, mw_242, ⟨rfl, rfl⟩⟩ (FLok.cons ⟨RX9, TX9, 5, tyX9, rfl, iX9, tyX9_ok, nmX9, by decide, mw_356, trivial⟩ (FLok.cons ⟨RX6, TX6, 8, tyX6, rfl, iX6, tyX6_ok, nmX6, by decide, mw_67, ⟨rfl, rfl⟩⟩ (FLok.cons ⟨RX6, TX6, 8, tyX6, rfl, iX6, tyX6_ok, nmX6, by decide, mw_81, ⟨rfl, rfl⟩⟩ (FLok.cons ⟨RX6, TX6, 8, tyX6, rfl, iX6, tyX6_ok, nmX6, by decide, mw_78, ⟨rfl, rfl⟩⟩ (FLok.cons ⟨RX6, TX6, 8, tyX6, rfl, iX6, tyX6_ok, nmX6, by decide, mw_86, ⟨rfl, rfl⟩⟩ (FLok.cons ⟨RX5, TX5, 4, tyX5, rfl, iX5, tyX5_ok, nmX5, by decide, mw_413, ⟨rfl, rfl⟩⟩ (FLok.cons ⟨RX2, TX2, 10, tyX2, rfl, iX2, tyX2_ok, nmX2, by decide, mw_106, trivial⟩ (FLok.cons ⟨RX2, TX2, 10, tyX2, rfl, iX2, tyX2_ok, nmX2, by decide, mw_114, ⟨rfl, rfl⟩⟩ (FLok.cons ⟨RX2, TX2, 10, tyX2, rfl, iX2, tyX2_ok, nmX2, by decide, mw_121, ⟨rfl, rfl⟩⟩ (FLok.cons ⟨RX2, TX2, 10, tyX2, rfl, iX2, tyX2_ok, nmX2, by decide, mw_117, ⟨rfl, rfl⟩⟩ (FLok.cons ⟨RX9, TX9, 5, tyX9, rfl, iX9, tyX9_ok, nmX9, by decide, mw_348, ⟨rfl, rfl⟩⟩ (FLok.cons ⟨RX5, TX5, 4, tyX5, rfl, iX5, tyX5_ok, nmX5, by decide, mw_418, ⟨rfl, rfl⟩⟩ (FLok.nil))))))))))))))))))
def ml_X10D : XL := [(192, 33, 0, 0, 10), (261, 2, 1, 1, 10), (270, 32, 0, 1, 5), (273, 15, 0, 2, 2), (421, 7, 0, 1, 9), (427, 4, 0, 2, 5), (431, 1, 0, 2, 5)]
theorem ml_X10D_ok : MLok RX10 ysd ml_X10D := MLok.cons (Y := Yd33) rfl (ML1.v mw_723 mw_726 mw_1 (by decide +kernel) (by decide) mw_725 ms_17 rfl) (MLok.cons (Y := Yd2) rfl (ML1.s mw_839 mw_841 mw_1 (by decide +kernel) (by decide) mw_840) (MLok.cons (Y := Yd32) rfl (ML1.v mw_843 mw_846 mw_11 (by decide +kernel) (by decide) mw_844 mw_845 rfl) (MLok.cons (Y := Yd15) rfl (ML1.v mw_847 mw_850 mw_3 (by decide +kernel) (by decide) mw_848 mw_849 rfl) (MLok.cons (Y := Yd7) rfl (ML1.v mw_1201 mw_1204 mw_6 (by decide +kernel) (by decide) mw_1202 mw_1203 rfl) (MLok.cons (Y := Yd4) rfl (ML1.v mw_1230 mw_1233 mw_11 (by decide +kernel) (by decide) mw_1231 mw_1232 rfl) (MLok.cons (Y := Yd1) rfl (ML1.v mw_1241 mw_1244 mw_11 (by decide +kernel) (by decide) mw_1242 mw_1243 rfl) (MLok.nil)))))))
def ac_X10D : Option Nat := none
theorem ac_X10D_ok : ∀ i, ac_X10D = some i → ACok RX10 i := fun i h => by cases h
def q_X5D : XQ := ([], [])
theorem q_X5D_ok : XQok RX5 q_X5D := XQok.nil
def fl_X5D : XF := [(9, 5, 0, 1), (15, 5, 1, 0), (19, 5, 2, 0), (22, 5, 3, 4)]
theorem fl_X5D_ok : FLok RX5 fl_X5D := FLok.cons ⟨RX5, TX5, 4, tyX5, rfl, iX5, tyX5_ok, nmX5, by decide, mw_412, ⟨rfl, rfl⟩⟩ (FLok.cons ⟨RX5, TX5, 4, tyX5, rfl, iX5, tyX5_ok, nmX5, by decide, mw_414, ⟨rfl, rfl⟩⟩ (FLok.cons ⟨RX5, TX5, 4, tyX5, rfl, iX5, tyX5_ok, nmX5, by decide, mw_416, ⟨rfl, rfl⟩⟩ (FLok.cons ⟨RX5, TX5, 4, tyX5, rfl, iX5, tyX5_ok, nmX5, by decide, mw_419, trivial⟩ (FLok.nil))))
def ml_X5D : XL := [(26, 5, 1, 2, 99)]
theorem ml_X5D_ok : MLok RX5 ysd ml_X5D := MLok.cons (Y := Yd5) rfl (ML1.s mw_1234 mw_1236 mw_13 (by decide +kernel) (by decide) mw_1235) (MLok.nil)
def ac_X5D : Option Nat := none
theorem ac_X5D_ok : ∀ i, ac_X5D = some i → ACok RX5 i := fun i h => by cases h
def q_J7D : XQ := ([], [])
theorem q_J7D_ok : XQok RJ7 q_J7D := XQok.nil
def fl_J7D : XF := []
theorem fl_J7D_ok : FLok RJ7 fl_J7D := FLok.nil
def ml_J7D : XL := []
theorem ml_J7D_ok : MLok RJ7 ysd ml_J7D := MLok.nil
def ac_J7D : Option Nat := none
theorem ac_J7D_ok : ∀ i, ac_J7D = some i → ACok RJ7 i := fun i h => by cases h
def q_X9D : XQ := ([], [])
theorem q_X9D_ok : XQok RX9 q_X9D := XQok.nil
def fl_X9D : XF := [(18, 9, 1, 4), (25, 9, 2, 4), (29, 9, 3, 4), (33, 9, 4, 0)]
theorem fl_X9D_ok : FLok RX9 fl_X9D := FLok.cons ⟨RX9, TX9, 5, tyX9, rfl, iX9, tyX9_ok, nmX9, by decide, mw_349, trivial⟩ (FLok.cons ⟨RX9, TX9, 5, tyX9, rfl, iX9, tyX9_ok, nmX9, by decide, mw_353, trivial⟩ (FLok.cons ⟨RX9, TX9, 5, tyX9, rfl, iX9, tyX9_ok, nmX9, by decide, mw_357, trivial⟩ (FLok.cons ⟨RX9, TX9, 5, tyX9, rfl, iX9, tyX9_ok, nmX9, by decide, mw_358, ⟨rfl, rfl⟩⟩ (FLok.nil))))
def ml_X9D : XL := [(41, 8, 0, 1, 6), (45, 9, 0, 1, 8)]
theorem ml_X9D_ok : MLok RX9 ysd ml_X9D := MLok.cons (Y := Yd8) rfl (ML1.v mw_767 mw_770 mw_4 (by decide +kernel) (by decide) mw_768 mw_769 rfl) (MLok.cons (Y := Yd9) rfl (ML1.v mw_1205 mw_1208 mw_7 (by decide +kernel) (by decide) mw_1206 mw_1207 rfl) (MLok.nil))
def ac_X9D : Option Nat := none
theorem ac_X9D_ok : ∀ i, ac_X9D = some i → ACok RX9 i := fun i h => by cases h
def q_X6D : XQ := ([], [(56, 10), (76, 2)])
theorem q_X6D_ok : XQok RX6 q_X6D := XQok.l (by decide +kernel) mw_745 (XQok.l (by decide +kernel) mw_811 (XQok.nil))
def fl_X6D : XF := [(9, 6, 0, 0), (15, 6, 1, 0), (18, 6, 2, 0), (21, 6, 3, 0), (24, 6, 4, 0), (27, 6, 5, 2), (31, 6, 6, 2), (34, 6, 7, 2), (65, 8, 16, 4), (69, 8, 3, 0)]
theorem fl_X6D_ok : FLok RX6 fl_X6D := FLok.cons ⟨RX6, TX6, 8, tyX6, rfl, iX6, tyX6_ok, nmX6, by decide, mw_62, ⟨rfl, rfl⟩⟩ (FLok.cons ⟨RX6, TX6, 8, tyX6, rfl, iX6, tyX6_ok, nmX6, by decide, mw_65, ⟨rfl, rfl⟩⟩ (FLok.cons ⟨RX6, TX6, 8, tyX6, rfl, iX6, tyX6_ok, nmX6, by decide, mw_68, ⟨rfl, rfl⟩⟩ (FLok.cons ⟨RX6, TX6, 8, tyX6, rfl, iX6, tyX6_ok, nmX6, by decide, mw_72, ⟨rfl, rfl⟩⟩ (FLok.cons ⟨RX6, TX6, 8, tyX6, rfl, iX6, tyX6_ok, nmX6, by decide, mw_75, ⟨rfl, rfl⟩⟩ (FLok.cons ⟨RX6, TX6, 8, tyX6, rfl, iX6, tyX6_ok, nmX6, by decide, mw_79, ⟨rfl, rfl⟩⟩ (FLok.cons ⟨RX6, TX6, 8, tyX6, rfl, iX6, tyX6_ok, nmX6, by decide, mw_82, ⟨rfl, rfl⟩⟩ (FLok.cons ⟨RX6, TX6, 8, tyX6, rfl, iX6, tyX6_ok, nmX6, by decide, mw_84, ⟨rfl, rfl⟩⟩ (FLok.cons ⟨RX8, TX8, 19, tyX8, rfl, iX8, tyX8_ok, nmX8, by decide, mw_296, trivial⟩ (FLok.cons ⟨RX8, TX8, 19, tyX8, rfl, iX8, tyX8_ok, nmX8, by decide, mw_252, ⟨rfl, rfl⟩⟩ (FLok.nil))))))))))
def ml_X6D : XL := [(46, 29, 0, 1, 8), (50, 27, 0, 1, 8), (58, 20, 1, 2, 6), (62, 21, 0, 1, 8), (72, 19, 0, 1, 6), (78, 18, 1, 1, 99), (83, 0, 7, 2, 0), (89, 0, 6, 2, 0)]
theorem ml_X6D_ok : MLok RX6 ysd ml_X6D := MLok.cons (Y := Yd29) rfl (ML1.v mw_775 mw_778 mw_7 (by decide +kernel) (by decide) mw_776 mw_777 rfl) (MLok.cons (Y := Yd27) rfl (ML1.v mw_779 mw_782 mw_7 (by decide +kernel) (by decide) mw_780 mw_781 rfl) (MLok.cons (Y := Yd20) rfl (ML1.s mw_754 mw_744 mw_4 (by decide +kernel) (by decide) mw_743) (MLok.cons (Y := Yd21) rfl (ML1.v mw_755 mw_758 mw_7 (by decide +kernel) (by decide) mw_756 mw_757 rfl) (MLok.cons (Y := Yd19) rfl (ML1.v mw_807 mw_810 mw_4 (by decide +kernel) (by decide) mw_809 ms_18 rfl) (MLok.cons (Y := Yd18) rfl (ML1.s mw_812 mw_678 mw_18 (by decide +kernel) (by decide) mw_677) (MLok.cons (Y := Yd0) rfl (ML1.min mw_813 mw_814 mw_19 mw_815) (MLok.cons (Y := Yd0) rfl (ML1.max mw_816 mw_817 mw_19 mw_818) (MLok.nil))))))))
def ac_X6D : Option Nat := none
theorem ac_X6D_ok : ∀ i, ac_X6D = some i → ACok RX6 i := fun i h => by cases h
def q_X8D : XQ := ([], [])
theorem q_X8D_ok : XQok RX8 q_X8D := XQok.nil
def fl_X8D : XF := [(9, 8, 0, 0), (15, 8, 1, 0), (18, 8, 2, 0), (21, 8, 3, 0), (24, 8, 4, 0), (27, 8, 5, 0), (30, 8, 6, 0), (33, 8, 7, 4), (37, 8, 8, 0), (40, 8, 9, 0), (46, 8, 10, 4), (50, 8, 11, 0), (53, 8, 12, 4), (56, 8, 13, 0), (59, 8, 14, 0), (62, 8, 15, 4), (65, 8, 16, 4), (68, 8, 17, 4), (74, 8, 18, 4)]
theorem fl_X8D_ok : FLok RX8 fl_X8D := FLok.cons ⟨RX8, TX8, 19, tyX8, rfl, iX8, tyX8_ok, nmX8, by decide, mw_240, ⟨rfl, rfl⟩⟩ (FLok.cons ⟨RX8, TX8, 19, tyX8, rfl, iX8, tyX8_ok, nmX8, by decide, mw_243, ⟨rfl, rfl⟩⟩ (FLok.cons ⟨RX8, TX8, 19, tyX8, rfl, iX8, tyX8_ok, nmX8, by decide, mw_247, ⟨rfl, rfl⟩⟩ (FLok.cons ⟨RX8, TX8, 19, tyX8, rfl, iX8, tyX8_ok, nmX8, by decide, mw_250, ⟨rfl, rfl⟩⟩ (FLok.cons ⟨RX8, TX8, 19, tyX8, rfl, iX8, tyX8_ok, nmX8, by decide, mw_254, ⟨rfl, rfl⟩⟩ (FLok.cons ⟨RX8, TX8, 19, tyX8, rfl, iX8, tyX8_ok, nmX8, by decide, mw_257, ⟨rfl, rfl⟩⟩ (FLok.cons ⟨RX8, TX8, 19, tyX8, rfl, iX8, tyX8_ok, nmX8, by decide, mw_261, ⟨rfl, rfl⟩⟩ (FLok.cons ⟨RX8, TX8, 19, tyX8, rfl, iX8, tyX8_ok, nmX8, by decide, mw_265, trivial⟩ (FLok.cons ⟨RX8, TX8, 19, tyX8, rfl, iX8, tyX8_ok, nmX8, by decide, mw_269, ⟨rfl, rfl⟩⟩ (FLok.cons ⟨RX8, TX8, 19, tyX8, rfl, iX8, tyX8_ok, nmX8, by decide, mw_272, ⟨rfl, rfl⟩⟩ (FLok.cons ⟨RX8, TX8, 19, tyX8, rfl, iX8, tyX8_ok, nmX8, by decide, mw_275, trivial⟩ (FLok.cons ⟨RX8, TX8, 19, tyX8, rfl, iX8, tyX8_ok, nmX8, by decide, mw_279, ⟨rfl, rfl⟩⟩ (FLok.cons ⟨RX8, TX8, 19, tyX8, rfl, iX8, tyX8_ok, nmX8, by decide, mw_282, trivial⟩ (FLok.cons ⟨RX8, TX8, 19, tyX8, rfl, iX8, tyX8_ok, nmX8, by decide, mw_285, ⟨rfl, rfl⟩⟩ (FLok.cons ⟨RX8, TX8, 19, tyX8, rfl, iX8, tyX8_ok, nmX8, by decide, mw_288, ⟨rfl, rfl⟩⟩ (FLok.cons ⟨RX8, TX8, 19, tyX8, rfl, iX8, tyX8_ok, nmX8, by decide, mw_291, trivial⟩ (FLok.cons ⟨RX8, TX8, 19, tyX8, rfl, iX8, tyX8_ok, nmX8, by decide, mw_294, trivial⟩ (FLok.cons ⟨RX8, TX8, 19, tyX8, rfl, iX8, tyX8_ok, nmX8, by decide, mw_298, trivial⟩ (FLok.cons ⟨RX8, TX8, 19, tyX8, rfl, iX8, tyX8_ok, nmX8, by decide, mw_300, trivial⟩ (FLok.nil)))))))))))))))))))
def ml_X8D : XL := [(87, 12, 0, 1, 3), (91, 10, 0, 1, 0), (100, 28, 0, 1, 0), (104, 23, 0, 2, 0)]
theorem ml_X8D_ok : MLok RX8 ysd ml_X8D := MLok.cons (Y := Yd12) rfl (ML1.v mw_1209 mw_1212 mw_9 (by decide +kernel) (by decide) mw_1210 mw_1211 rfl) (MLok.cons (Y := Yd10) rfl (ML1.v mw_1216 mw_1219 mw_8 (by decide +kernel) (by decide) mw_1217 mw_1218 rfl) (MLok.cons (Y := Yd28) rfl (ML1.v mw_698 mw_701 mw_8 (by decide +kernel) (by decide) mw_699 mw_700 rfl) (MLok.cons (Y := Yd23) rfl (ML1.v mw_736 mw_675 mw_8 (by decide +kernel) (by decide) mw_673 mw_674 rfl) (MLok.nil))))
def ac_X8D : Option Nat := some 94
theorem ac_X8D_ok : ∀ i, ac_X8D = some i → ACok RX8 i := fun i h => by cases h; exact ⟨mw_1221, mw_1215, mw_1214, mw_20⟩
def q_X0D : XQ := ([], [])
theorem q_X0D_ok : XQok RX0 q_X0D := XQok.nil
def fl_X0D : XF := [(9, 0, 0, 4), (15, 0, 1, 4), (18, 0, 2, 4), (21, 0, 3, 4)]
theorem fl_X0D_ok : FLok RX0 fl_X0D := FLok.cons ⟨RX0, TX0, 4, tyX0, rfl, iX0, tyX0_ok, nmX0, by decide, mw_203, trivial⟩ (FLok.cons ⟨RX0, TX0, 4, tyX0, rfl, iX0, tyX0_ok, nmX0, by decide, mw_206, trivial⟩ (FLok.cons ⟨RX0, TX0, 4, tyX0, rfl, iX0, tyX0_ok, nmX0, by decide, mw_208, trivial⟩ (FLok.cons ⟨RX0, TX0, 4, tyX0, rfl, iX0, tyX0_ok, nmX0, by decide, mw_210, trivial⟩ (FLok.nil))))
def ml_X0D : XL := [(24, 11, 0, 5, 0)]
theorem ml_X0D_ok : MLok RX0 ysd ml_X0D := MLok.cons (Y := Yd11) rfl (ML1.v mw_1220 mw_605 mw_8 (by decide +kernel) (by decide) mw_603 mw_604 rfl) (MLok.nil)
def ac_X0D : Option Nat := none
theorem ac_X0D_ok : ∀ i, ac_X0D = some i → ACok RX0 i := fun i h => by cases h
def q_X3D : XQ := ([], [])
theorem q_X3D_ok : XQok RX3 q_X3D := XQok.nil
def fl_X3D : XF := [(9, 3, 0, 0), (15, 3, 1, 0), (18, 3, 2, 4)]
theorem fl_X3D_ok : FLok RX3 fl_X3D := FLok.cons ⟨RX3, TX3, 3, tyX3, rfl, iX3, tyX3_ok, nmX3, by decide, mw_227, ⟨rfl, rfl⟩⟩ (FLok.cons ⟨RX3, TX3, 3, tyX3, rfl, iX3, tyX3_ok, nmX3, by decide, mw_229, ⟨rfl, rfl⟩⟩ (FLok.cons ⟨RX3, TX3, 3, tyX3, rfl, iX3, tyX3_ok, nmX3, by decide, mw_231, trivial⟩ (FLok.nil)))
def ml_X3D : XL := [(34, 18, 1, 1, 99)]
theorem ml_X3D_ok : MLok RX3 ysd ml_X3D := MLok.cons (Y := Yd18) rfl (ML1.s mw_718 mw_678 mw_18 (by decide +kernel) (by decide) mw_677) (MLok.nil)
def ac_X3D : Option Nat := some 28
theorem ac_X3D_ok : ∀ i, ac_X3D = some i → ACok RX3 i := fun i h => by cases h; exact ⟨mw_1213, mw_1215, mw_1214, mw_20⟩
def q_X2D : XQ := ([], [])
theorem q_X2D_ok : XQok RX2 q_X2D := XQok.nil
def fl_X2D : XF := [(12, 2, 0, 4), (18, 2, 1, 4), (22, 2, 2, 4), (25, 2, 3, 4), (29, 2, 4, 0), (33, 2, 5, 0), (36, 2, 6, 0), (39, 2, 7, 0), (42, 2, 8, 0), (45, 2, 9, 0), (48, 9, 2, 4), (55, 6, 0, 0), (72, 6, 5, 2), (76, 6, 7, 2), (79, 6, 4, 0), (90, 9, 1, 4), (102, 5, 2, 0), (117, 5, 3, 4), (120, 8, 18, 4), (124, 6, 2, 0)]
theorem fl_X2D_ok : FLok RX2 fl_X2D := FLok.cons ⟨RX2, TX2, 10, tyX2, rfl, iX2, tyX2_ok, nmX2, by decide, mw_104, trivial⟩ (FLok.cons ⟨RX2, TX2, 10, tyX2, rfl, iX2, tyX2_ok, nmX2, by decide, mw_107, trivial⟩ (FLok.cons ⟨RX2, TX2, 10, tyX2, rfl, iX2, tyX2_ok, nmX2, by decide, mw_109, trivial⟩ (FLok.cons ⟨RX2, TX2, 10, tyX2, rfl, iX2, tyX2_ok, nmX2, by decide, mw_111, trivial⟩ (FLok.cons ⟨RX2, TX2, 10, tyX2, rfl, iX2, tyX2_ok, nmX2, by decide, mw_113, ⟨rfl, rfl⟩⟩ (FLok.cons ⟨RX2, TX2, 10, tyX2, rfl, iX2, tyX2_ok, nmX2, by decide, mw_115, ⟨rfl, rfl⟩⟩ (FLok.cons ⟨RX2, TX2, 10, tyX2, rfl, iX2, tyX2_ok, nmX2, by decide, mw_118, ⟨rfl, rfl⟩⟩ (FLok.cons ⟨RX2, TX2, 10, tyX2, rfl, iX2, tyX2_ok, nmX2, by decide, mw_120, ⟨rfl, rfl⟩⟩ (FLok.cons ⟨RX2, TX2, 10, tyX2, rfl, iX2, tyX2_ok, nmX2, by decide, mw_122, ⟨rfl, rfl⟩⟩ (FLok.cons ⟨RX2, TX2, 10, tyX2, rfl, iX2, tyX2_ok, nmX2, by decide, mw_123, ⟨rfl, rfl⟩⟩ (FLok.cons ⟨RX9, TX9, 5, tyX9, rfl, iX9, tyX9_ok, nmX9, by decide, mw_354, trivial⟩ (FLok.cons ⟨RX6, TX6, 8, tyX6, rfl, iX6, tyX6_ok, nmX6, by decide, mw_63, ⟨rfl, rfl⟩⟩ (FLok.cons ⟨RX6, TX6, 8, tyX6, rfl, iX6, tyX6_ok, nmX6, by decide, mw_80, ⟨rfl, rfl⟩⟩ (FLok.cons ⟨RX6, TX6, 8, tyX6, rfl, iX6, tyX6_ok, nmX6, by decide, mw_85, ⟨rfl, rfl⟩⟩ (FLok.cons ⟨RX6, TX6, 8, tyX6, rfl, iX6, tyX6_ok, nmX6, by decide, mw_76, ⟨rfl, rfl⟩⟩ (FLok.cons ⟨RX9, TX9, 5, tyX9, rfl, iX9, tyX9_ok, nmX9, by decide, mw_351, trivial⟩ (FLok.cons ⟨RX5, TX5, 4, tyX5, rfl, iX5, tyX5_ok, nmX5, by decide, mw_417, ⟨rfl, rfl⟩⟩ (FLok.cons ⟨RX5, TX5, 4, tyX5, rfl, iX5, tyX5_ok, nmX5, by decide, mw_420, trivial⟩ (FLok.cons ⟨RX8, TX8, 19, tyX8, rfl, iX8, tyX8_ok, nmX8, by decide, mw_303, trivial⟩ (FLok.cons ⟨RX6, TX6, 8, tyX6, rfl, iX6, tyX6_ok, nmX6, by decide, mw_71, ⟨rfl, rfl⟩⟩ (FLok.nil))))))))))))))))))))
def ml_X2D : XL := [(51, 8, 0, 1, 6), (58, 24, 0, 0, 6), (62, 22, 0, 1, 8), (68, 17, 0, 2, 6), (86, 31, 0, 1, 2), (94, 26, 0, 2, 6), (98, 16, 0, 1, 2), (107, 0, 7, 2, 0), (113, 25, 0, 3, 2), (127, 30, 0, 2, 3)]
theorem ml_X2D_ok : MLok RX2 ysd ml_X2D := MLok.cons (Y := Yd8) rfl (ML1.v mw_855 mw_770 mw_4 (by decide +kernel) (by decide) mw_768 mw_769 rfl) (MLok.cons (Y := Yd24) rfl (ML1.v mw_867 mw_671 mw_4 (by decide +kernel) (by decide) mw_669 mw_670 rfl) (MLok.cons (Y := Yd22) rfl (ML1.v mw_868 mw_735 mw_7 (by decide +kernel) (by decide) mw_733 mw_734 rfl) (MLok.cons (Y := Yd17) rfl (ML1.v mw_869 mw_806 mw_4 (by decide +kernel) (by decide) mw_804 mw_805 rfl) (MLok.cons (Y := Yd31) rfl (ML1.v mw_851 mw_854 mw_3 (by decide +kernel) (by decide) mw_853 ms_19 rfl) (MLok.cons (Y := Yd26) rfl (ML1.v mw_862 mw_774 mw_4 (by decide +kernel) (by decide) mw_772 mw_773 rfl) (MLok.cons (Y := Yd16) rfl (ML1.v mw_863 mw_866 mw_3 (by decide +kernel) (by decide) mw_865 ms_21 rfl) (MLok.cons (Y := Yd0) rfl (ML1.min mw_856 mw_814 mw_19 mw_815) (MLok.cons (Y := Yd25) rfl (ML1.v mw_857 mw_860 mw_3 (by decide +kernel) (by decide) mw_859 ms_20 rfl) (MLok.cons (Y := Yd30) rfl (ML1.v mw_861 mw_717 mw_9 (by decide +kernel) (by decide) mw_715 mw_716 rfl) (MLok.nil))))))))))
def ac_X2D : Option Nat := none
theorem ac_X2D_ok : ∀ i, ac_X2D = some i → ACok RX2 i := fun i h => by cases h
def q_J6D : XQ := ([(265, 1431655765), (266, 858993459), (267, 252645135)], [])
theorem q_J6D_ok : XQok RJ6 q_J6D := XQok.i (by decide +kernel) mw_679 (XQok.i (by decide +kernel) mw_680 (XQok.i (by decide +kernel) mw_681 (XQok.nil)))
def fl_J6D : XF := []
theorem fl_J6D_ok : FLok RJ6 fl_J6D := FLok.nil
def ml_J6D : XL := []
theorem ml_J6D_ok : MLok RJ6 ysd ml_J6D := MLok.nil
def ac_J6D : Option Nat := none
theorem ac_J6D_ok : ∀ i, ac_J6D = some i → ACok RJ6 i := fun i h => by cases h
