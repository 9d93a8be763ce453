theorem ka_0 : Jvm.Cond.arrayClass Jvm.ClassFile.FieldType.int ∈ lw_tbl := List.mem_of_getElem? (i := 248) (by decide +kernel)
theorem ka_1 : Jvm.Cond.arrayClass Jvm.ClassFile.FieldType.long ∈ lw_tbl := List.mem_of_getElem? (i := 247) (by decide +kernel)
theorem ka_2 : Jvm.Cond.arrayClass Jvm.ClassFile.FieldType.byte ∈ lw_tbl := List.mem_of_getElem? (i := 147) (by decide +kernel)
theorem ka_3 : Jvm.Cond.arrayClass Jvm.ClassFile.FieldType.boolean ∈ lw_tbl := List.mem_of_getElem? (i := 287) (by decide +kernel)
theorem ka_4 : Jvm.Cond.arrayOver (Jvm.ClassFile.FieldType.object "BellMoney$State") ∈ lw_tbl := List.mem_of_getElem? (i := 448) (by decide +kernel)
theorem ka_5 : Jvm.Cond.arrayOver (Jvm.ClassFile.FieldType.object "BellMoney$World") ∈ lw_tbl := List.mem_of_getElem? (i := 149) (by decide +kernel)
theorem ka_6 : Jvm.Cond.arrayOver (Jvm.ClassFile.FieldType.object "BellMoney$Row") ∈ lw_tbl := List.mem_of_getElem? (i := 151) (by decide +kernel)
theorem kb_0 : Jvm.Cond.instantiable "BellMoney$Bells" (4 : Nat) ∈ lw_tbl := List.mem_of_getElem? (i := 300) (by decide +kernel)
theorem kb_1 : Jvm.Cond.instantiable "BellMoney$Choice" (9 : Nat) ∈ lw_tbl := List.mem_of_getElem? (i := 250) (by decide +kernel)
theorem kb_2 : Jvm.Cond.instantiable "BellMoney$Forecast" (10 : Nat) ∈ lw_tbl := List.mem_of_getElem? (i := 153) (by decide +kernel)
theorem kb_3 : Jvm.Cond.instantiable "BellMoney$Law" (3 : Nat) ∈ lw_tbl := List.mem_of_getElem? (i := 324) (by decide +kernel)
theorem kb_4 : Jvm.Cond.instantiable "BellMoney$Reader" (9 : Nat) ∈ lw_tbl := List.mem_of_getElem? (i := 474) (by decide +kernel)
theorem kb_5 : Jvm.Cond.instantiable "BellMoney$Row" (4 : Nat) ∈ lw_tbl := List.mem_of_getElem? (i := 509) (by decide +kernel)
theorem kb_6 : Jvm.Cond.instantiable "BellMoney$State" (8 : Nat) ∈ lw_tbl := List.mem_of_getElem? (i := 159) (by decide +kernel)
theorem kb_7 : Jvm.Cond.instantiable "BellMoney$Tape" (2 : Nat) ∈ lw_tbl := List.mem_of_getElem? (i := 132) (by decide +kernel)
theorem kb_8 : Jvm.Cond.instantiable "BellMoney$Town" (19 : Nat) ∈ lw_tbl := List.mem_of_getElem? (i := 294) (by decide +kernel)
theorem kb_9 : Jvm.Cond.instantiable "BellMoney$World" (5 : Nat) ∈ lw_tbl := List.mem_of_getElem? (i := 288) (by decide +kernel)
theorem kb_10 : Jvm.Cond.instantiable "BellMoney" (8 : Nat) ∈ lw_tbl := List.mem_of_getElem? (i := 124) (by decide +kernel)
theorem kb_11 : Jvm.Cond.instantiable "BellMoneyModel" (49 : Nat) ∈ lw_tbl := List.mem_of_getElem? (i := 1357) (by decide +kernel)
theorem nest_in : ∀ w ∈ px_nest, w ∈ lw_tbl := by decide +kernel
theorem nest_on : ∀ w ∈ px_nest, w.onTables = true := by decide +kernel
theorem KL_len : KL.length = kdP.length := by decide +kernel
theorem lw_known {s : State} {b : Nat} (hts : ∀ w ∈ lw_tbl, w.before #[Value.ref b] s = true) : ∃ (D : va_G) (t : Nat → ClassId), va_K D vwCl (px_T t) s := by
  obtain ⟨c0, i0, u0⟩ := u_known (C := RX0) (T := TX0) (N := 4) (n := 4) hts (fun w h => Wd_in w (iX0 w h)) (hts _ kb_0)
  obtain ⟨c1, i1, u1⟩ := u_known (C := RX1) (T := TX1) (N := 9) (n := 9) hts (fun w h => Wd_in w (iX1 w h)) (hts _ kb_1)
  obtain ⟨c2, i2, u2⟩ := u_known (C := RX2) (T := TX2) (N := 10) (n := 10) hts (fun w h => Wd_in w (iX2 w h)) (hts _ kb_2)
  obtain ⟨c3, i3, u3⟩ := u_known (C := RX3) (T := TX3) (N := 3) (n := 3) hts (fun w h => Wd_in w (iX3 w h)) (hts _ kb_3)
  obtain ⟨c4, i4, u4⟩ := u_known (C := RX4) (T := TX4) (N := 9) (n := 9) hts (fun w h => Wd_in w (iX4 w h)) (hts _ kb_4)
  obtain ⟨c5, i5, u5⟩ := u_known (C := RX5) (T := TX5) (N := 4) (n := 4) hts (fun w h => Wd_in w (iX5 w h)) (hts _ kb_5)
  obtain ⟨c6, i6, u6⟩ := u_known (C := RX6) (T := TX6) (N := 8) (n := 8) hts (fun w h => Wd_in w (iX6 w h)) (hts _ kb_6)
  obtain ⟨c7, i7, u7⟩ := u_known (C := RX7) (T := TX7) (N := 2) (n := 2) hts (fun w h => Wd_in w (iX7 w h)) (hts _ kb_7)
  obtain ⟨c8, i8, u8⟩ := u_known (C := RX8) (T := TX8) (N := 19) (n := 19) hts (fun w h => Wd_in w (iX8 w h)) (hts _ kb_8)
  obtain ⟨c9, i9, u9⟩ := u_known (C := RX9) (T := TX9) (N := 5) (n := 5) hts (fun w h => Wd_in w (iX9 w h)) (hts _ kb_9)
  obtain ⟨c10, i10, u10⟩ := u_known (C := RX10) (T := TX10) (N := 8) (n := 8) hts (fun w h => Wd_in w (iX10 w h)) (hts _ kb_10)
  obtain ⟨c11, i11, u11⟩ := u_known (C := RX11) (T := TX11) (N := 49) (n := 49) hts (fun w h => Wd_in w (iX11 w h)) (hts _ kb_11)
  obtain ⟨t0, a0, p0, v0, w0, z0⟩ := Cond.arrayClass_spec (hts _ ka_0)
  obtain ⟨t1, a1, p1, v1, w1, z1⟩ := Cond.arrayClass_spec (hts _ ka_1)
  obtain ⟨t2, a2, p2, v2, w2, z2⟩ := Cond.arrayClass_spec (hts _ ka_2)
  obtain ⟨t3, a3, p3, v3, w3, z3⟩ := Cond.arrayClass_spec (hts _ ka_3)
  obtain ⟨p4, t4, a4, x4, y4, w4, z4, v4⟩ := Cond.arrayOver_spec (hts _ ka_4)
  obtain ⟨p5, t5, a5, x5, y5, w5, z5, v5⟩ := Cond.arrayOver_spec (hts _ ka_5)
  obtain ⟨p6, t6, a6, x6, y6, w6, z6, v6⟩ := Cond.arrayOver_spec (hts _ ka_6)
  refine ⟨(fun k => [c0, c1, c2, c3, c4, c5, c6, c7, c8, c9, c10, c11].getD k 0, fun k => [i0, i1, i2, i3, i4, i5, i6, i7, i8, i9, i10, i11].getD k (fun _ => 0)), fun k => [t0, t1, t2, t3, t4, t5, t6].getD k 0, ?_, ?_⟩
  · intro k q hq
    match k, hq with
      | 0, hq => cases hq; exact u0
      | 1, hq => cases hq; exact u1
      | 2, hq => cases hq; exact u2
      | 3, hq => cases hq; exact u3
      | 4, hq => cases hq; exact u4
      | 5, hq => cases hq; exact u5
      | 6, hq => cases hq; exact u6
      | 7, hq => cases hq; exact u7
      | 8, hq => cases hq; exact u8
      | 9, hq => cases hq; exact u9
      | 10, hq => cases hq; exact u10
      | 11, hq => cases hq; exact u11
      | n + 12, hq => simp [vwCl] at hq
  · intro k q hq
    match k, hq with
      | 0, hq => cases hq; exact ⟨fun n z => ⟨(fun k h => by cases h), a0, w0, p0, z0⟩, v0⟩
      | 1, hq => cases hq; exact ⟨fun n z => ⟨(fun k h => by cases h), a1, w1, p1, z1⟩, v1⟩
      | 2, hq => cases hq; exact ⟨fun n z => ⟨(fun k h => by cases h), a2, w2, p2, z2⟩, v2⟩
      | 3, hq => cases hq; exact ⟨fun n z => ⟨(fun k h => by cases h), a3, w3, p3, z3⟩, v3⟩
      | 4, hq => cases hq; exact ⟨fun n z => ⟨(fun k h => by cases h), a4, w4, p4, z4⟩, a4, p4, w4, z4, x4, v4⟩
      | 5, hq => cases hq; exact ⟨fun n z => ⟨(fun k h => by cases h), a5, w5, p5, z5⟩, a5, p5, w5, z5, x5, v5⟩
      | 6, hq => cases hq; exact ⟨fun n z => ⟨(fun k h => by cases h), a6, w6, p6, z6⟩, a6, p6, w6, z6, x6, v6⟩
      | n + 7, hq => simp [px_T] at hq
theorem lw_nest {s : State} {b : Nat} (hts : ∀ w ∈ lw_tbl, w.before #[Value.ref b] s = true) : px_N s :=
  ⟨fun w hw => va_Nw.of (nest_on w hw) (hts w (nest_in w hw)), va_AO.of (hts _ ka_4), va_AO.of (hts _ ka_5), va_AO.of (hts _ ka_6)⟩
section LWE
variable {p : Program} {l : Launch} {e : Env} {s : State} {m : MethodId} {below : List Frame} {meth : Method} {c : Code} {b : Nat} {xs : Nat → Int32} {D : va_G} {t : Nat → ClassId} {H : Heap} {locs : List Loc} {ls : Array Slot} {cells slots : Nat}
theorem law_exit (X : CX p s m #[.ref b] meth c RL code 4 ret) (hlo : ∀ q ∈ locs, s.heap.size ≤ q.base) (hc : cells ≤ 600000 ∧ slots ≤ 7302249) : W p l e room_1 s m #[.ref b] below meth c H locs cells slots (lw_Z below #[.ref b] s) (F0 m 1899 ls []) := by
  refine va_forget hlo ?_
  refine lv_iconst (v := 1) X.1 X.2.1 (show decode code 1899 = .ok (.iconst 1, 1) from dq_ok (by decide +kernel)) (by decide) ?_
  refine W.widen hc.1 hc.2 ?_
  exact lw_ret X.1 X.2.1 X.2.2.2.2.2.2 X.2.2.2.2.2.1 (show decode code 1900 = .ok (.ireturn, 1) from dq_ok (by decide +kernel))
theorem law_tail (X : CX p s m #[.ref b] meth c RL code 4 ret) (hX : va_X b 6 xs s s.heap) (hbl : b < s.heap.size) (hl : lv_has ls 4 (lawL b s.heap.size)) (hc : cells ≤ 600000 ∧ slots ≤ 7302249) (hS : va_S (fun q => s.heap.size ≤ q) s.heap H locs) : W p l e room_1 s m #[.ref b] below meth c H locs cells slots (lw_Z below #[.ref b] s) (F0 m 1893 ls []) := by
  have hbA : ¬ (fun q : Nat => s.heap.size ≤ q) b := Nat.not_le.mpr hbl
  refine lv_iinc (v := 6) (lv' := [(3, .int 6), (2, .ref (s.heap.size + 304)), (1, .ref (s.heap.size + 0)), (0, .ref b)]) X.1 X.2.1 (show decode code 1893 = .ok (.iinc 3 6, 3) from dq_ok (by decide +kernel)) hl (k := 0) rfl (by decide) (by decide) rfl (fun ls hl => ?_)
  refine lv_goto (tgt := 18) X.1 X.2.1 (show decode code 1896 = .ok (.goto (-1878), 3) from dq_ok (by decide +kernel)) (by decide) ?_
  refine lv_iload_n X.1 X.2.1 (show decode code 18 = .ok (.iload_n 3, 1) from dq_ok (by decide +kernel)) rfl (lv_at hl 0 rfl) ?_
  refine lv_aload_n X.1 X.2.1 (show decode code 19 = .ok (.aload_n 0, 1) from dq_ok (by decide +kernel)) rfl (lv_at hl 3 rfl) ?_
  refine va_slen X.1 X.2.1 hX hbl hbA hS (show decode code 20 = .ok (.arraylength, 1) from dq_ok (by decide +kernel)) ?_
  refine lv_bipush (v := 6) X.1 X.2.1 (show decode code 21 = .ok (.bipush 6, 2) from dq_ok (by decide +kernel)) (by decide) ?_
  refine lv_isub X.1 X.2.1 (show decode code 23 = .ok (.isub, 1) from dq_ok (by decide +kernel)) ?_
  refine lv_icmp_gt (tgt := 1899) X.1 X.2.1 (show decode code 24 = .ok (.if_icmp .gt 1875, 3) from dq_ok (by decide +kernel)) (by decide) (fun _ => law_exit X hS.2.2 hc) (fun h => absurd (by decide) h)
end LWE
theorem dsw : decode code 33 = .ok (.tableswitch 1860 0 62 #[267, 330, 353, 366, 389, 422, 455, 488, 521, 544, 567, 590, 603, 627, 660, 674, 697, 750, 763, 786, 799, 812, 846, 859, 872, 885, 898, 911, 924, 947, 960, 973, 986, 1019, 1062, 1105, 1138, 1181, 1214, 1227, 1240, 1263, 1286, 1309, 1332, 1345, 1358, 1381, 1394, 1418, 1441, 1454, 1477, 1490, 1523, 1556, 1589, 1612, 1635, 1658, 1681, 1724, 1797], 267) := dq_ok (by decide +kernel)
theorem KL_304 : KL[304]? = some (.inl (11, [kvI 0, kvR 305, kvR 306, kvR 307, kvR 308, kvR 309, kvI 0, kvI 0, kvI 0, kvI 0, kvI 0, kvL 0, kvI 0, kvI 0, kvI 0, kvI (-1), kvR 310, kvR 311, kvR 312, kvR 313, kvR 314, kvR 315, kvR 316, kvR 317, kvI 0, kvI 0, kvI 0, kvI 0, kvI 0, kvI 0, kvL 0, kvL 0, kvR 318, kvL 0, kvI 0, kvI 0, kvI 0, kvI 0, kvI 0, kvI 0, kvI 0, kvI 0, kvI 0, kvI 0, kvI 0, kvR 319, kvI 0, kvI 0, kvR 320])) := by rfl
theorem fresh_304 (t : Nat → ClassId) (lo b : Nat) : px_f lo (KL.map (kcell t lo [b])) (lo + 304) = .inr (11, [.int (Int32.ofInt 0), .ref (lo + 305), .ref (lo + 306), .ref (lo + 307), .ref (lo + 308), .ref (lo + 309), .int (Int32.ofInt 0), .int (Int32.ofInt 0), .int (Int32.ofInt 0), .int (Int32.ofInt 0), .int (Int32.ofInt 0), .long (Int64.ofInt 0), .int (Int32.ofInt 0), .int (Int32.ofInt 0), .int (Int32.ofInt 0), .int (Int32.ofInt (-1)), .ref (lo + 310), .ref (lo + 311), .ref (lo + 312), .ref (lo + 313), .ref (lo + 314), .ref (lo + 315), .ref (lo + 316), .ref (lo + 317), .int (Int32.ofInt 0), .int (Int32.ofInt 0), .int (Int32.ofInt 0), .int (Int32.ofInt 0), .int (Int32.ofInt 0), .int (Int32.ofInt 0), .long (Int64.ofInt 0), .long (Int64.ofInt 0), .ref (lo + 318), .long (Int64.ofInt 0), .int (Int32.ofInt 0), .int (Int32.ofInt 0), .int (Int32.ofInt 0), .int (Int32.ofInt 0), .int (Int32.ofInt 0), .int (Int32.ofInt 0), .int (Int32.ofInt 0), .int (Int32.ofInt 0), .int (Int32.ofInt 0), .int (Int32.ofInt 0), .int (Int32.ofInt 0), .ref (lo + 319), .int (Int32.ofInt 0), .int (Int32.ofInt 0), .ref (lo + 320)]) := by
  simp only [px_f]
  rw [show lo + 304 - lo = 304 by omega, List.getElem?_map, KL_304]
  rfl
set_option maxRecDepth 4000 in
theorem law_switch {p : Program} {l : Launch} {e : Env} {s : State} {m : MethodId} {below : List Frame} {meth : Method} {c : Code} {b : Nat} {xs : Nat → Int32} {D : va_G} {t : Nat → ClassId} {H : Heap} {locs : List Loc} {ls : Array Slot} {cells slots : Nat} (hC : LCTX p l e s m below meth c b xs D t H locs ls cells slots) (k : Nat) (hk : k < 63) : ∃ (off : Int) (tgt : Nat), (#[267, 330, 353, 366, 389, 422, 455, 488, 521, 544, 567, 590, 603, 627, 660, 674, 697, 750, 763, 786, 799, 812, 846, 859, 872, 885, 898, 911, 924, 947, 960, 973, 986, 1019, 1062, 1105, 1138, 1181, 1214, 1227, 1240, 1263, 1286, 1309, 1332, 1345, 1358, 1381, 1394, 1418, 1441, 1454, 1477, 1490, 1523, 1556, 1589, 1612, 1635, 1658, 1681, 1724, 1797] : Array Int)[k]? = some off ∧ ((33 : Nat) : Int) + off = (tgt : Int) ∧ W p l e room_1 s m #[.ref b] below meth c H locs cells slots (lw_Z below #[.ref b] s) (F0 m tgt ls []) := by
  match k, hk with
  | 0, _ => exact ⟨267, 300, rfl, rfl, case_0 hC⟩
  | 1, _ => exact ⟨330, 363, rfl, rfl, case_1 hC⟩
  | 2, _ => exact ⟨353, 386, rfl, rfl, case_2 hC⟩
  | 3, _ => exact ⟨366, 399, rfl, rfl, case_3 hC⟩
  | 4, _ => exact ⟨389, 422, rfl, rfl, case_4 hC⟩
  | 5, _ => exact ⟨422, 455, rfl, rfl, case_5 hC⟩
  | 6, _ => exact ⟨455, 488, rfl, rfl, case_6 hC⟩
  | 7, _ => exact ⟨488, 521, rfl, rfl, case_7 hC⟩
  | 8, _ => exact ⟨521, 554, rfl, rfl, case_8 hC⟩
  | 9, _ => exact ⟨544, 577, rfl, rfl, case_9 hC⟩
  | 10, _ => exact ⟨567, 600, rfl, rfl, case_10 hC⟩
  | 11, _ => exact ⟨590, 623, rfl, rfl, case_11 hC⟩
  | 12, _ => exact ⟨603, 636, rfl, rfl, case_12 hC⟩
  | 13, _ => exact ⟨627, 660, rfl, rfl, case_13 hC⟩
  | 14, _ => exact ⟨660, 693, rfl, rfl, case_14 hC⟩
  | 15, _ => exact ⟨674, 707, rfl, rfl, case_15 hC⟩
  | 16, _ => exact ⟨697, 730, rfl, rfl, case_16 hC⟩
  | 17, _ => exact ⟨750, 783, rfl, rfl, case_17 hC⟩
  | 18, _ => exact ⟨763, 796, rfl, rfl, case_18 hC⟩
  | 19, _ => exact ⟨786, 819, rfl, rfl, case_19 hC⟩
  | 20, _ => exact ⟨799, 832, rfl, rfl, case_20 hC⟩
  | 21, _ => exact ⟨812, 845, rfl, rfl, case_21 hC⟩
  | 22, _ => exact ⟨846, 879, rfl, rfl, case_22 hC⟩
  | 23, _ => exact ⟨859, 892, rfl, rfl, case_23 hC⟩
  | 24, _ => exact ⟨872, 905, rfl, rfl, case_24 hC⟩
  | 25, _ => exact ⟨885, 918, rfl, rfl, case_25 hC⟩
  | 26, _ => exact ⟨898, 931, rfl, rfl, case_26 hC⟩
  | 27, _ => exact ⟨911, 944, rfl, rfl, case_27 hC⟩
  | 28, _ => exact ⟨924, 957, rfl, rfl, case_28 hC⟩
  | 29, _ => exact ⟨947, 980, rfl, rfl, case_29 hC⟩
  | 30, _ => exact ⟨960, 993, rfl, rfl, case_30 hC⟩
  | 31, _ => exact ⟨973, 1006, rfl, rfl, case_31 hC⟩
  | 32, _ => exact ⟨986, 1019, rfl, rfl, case_32 hC⟩
  | 33, _ => exact ⟨1019, 1052, rfl, rfl, case_33 hC⟩
  | 34, _ => exact ⟨1062, 1095, rfl, rfl, case_34 hC⟩
  | 35, _ => exact ⟨1105, 1138, rfl, rfl, case_35 hC⟩
  | 36, _ => exact ⟨1138, 1171, rfl, rfl, case_36 hC⟩
  | 37, _ => exact ⟨1181, 1214, rfl, rfl, case_37 hC⟩
  | 38, _ => exact ⟨1214, 1247, rfl, rfl, case_38 hC⟩
  | 39, _ => exact ⟨1227, 1260, rfl, rfl, case_39 hC⟩
  | 40, _ => exact ⟨1240, 1273, rfl, rfl, case_40 hC⟩
  | 41, _ => exact ⟨1263, 1296, rfl, rfl, case_41 hC⟩
  | 42, _ => exact ⟨1286, 1319, rfl, rfl, case_42 hC⟩
  | 43, _ => exact ⟨1309, 1342, rfl, rfl, case_43 hC⟩
  | 44, _ => exact ⟨1332, 1365, rfl, rfl, case_44 hC⟩
  | 45, _ => exact ⟨1345, 1378, rfl, rfl, case_45 hC⟩
  | 46, _ => exact ⟨1358, 1391, rfl, rfl, case_46 hC⟩
  | 47, _ => exact ⟨1381, 1414, rfl, rfl, case_47 hC⟩
  | 48, _ => exact ⟨1394, 1427, rfl, rfl, case_48 hC⟩
  | 49, _ => exact ⟨1418, 1451, rfl, rfl, case_49 hC⟩
  | 50, _ => exact ⟨1441, 1474, rfl, rfl, case_50 hC⟩
  | 51, _ => exact ⟨1454, 1487, rfl, rfl, case_51 hC⟩
  | 52, _ => exact ⟨1477, 1510, rfl, rfl, case_52 hC⟩
  | 53, _ => exact ⟨1490, 1523, rfl, rfl, case_53 hC⟩
  | 54, _ => exact ⟨1523, 1556, rfl, rfl, case_54 hC⟩
  | 55, _ => exact ⟨1556, 1589, rfl, rfl, case_55 hC⟩
  | 56, _ => exact ⟨1589, 1622, rfl, rfl, case_56 hC⟩
  | 57, _ => exact ⟨1612, 1645, rfl, rfl, case_57 hC⟩
  | 58, _ => exact ⟨1635, 1668, rfl, rfl, case_58 hC⟩
  | 59, _ => exact ⟨1658, 1691, rfl, rfl, case_59 hC⟩
  | 60, _ => exact ⟨1681, 1714, rfl, rfl, case_60 hC⟩
  | 61, _ => exact ⟨1724, 1757, rfl, rfl, case_61 hC⟩
  | 62, _ => exact ⟨1797, 1830, rfl, rfl, case_62 hC⟩
  | n + 63, h => exact absurd h (by omega)
