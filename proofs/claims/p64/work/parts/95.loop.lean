/-! THE LAW: its switch, its loop -/
theorem dsw : decode code 33 = .ok (.tableswitch 1856 0 62 #[267, 330, 353, 366, 389, 422, 455, 488, 521, 544, 567, 590, 603, 626, 659, 672, 695, 748, 761, 784, 797, 810, 843, 856, 869, 882, 895, 908, 921, 944, 957, 970, 983, 1016, 1059, 1102, 1135, 1178, 1211, 1224, 1237, 1260, 1283, 1306, 1329, 1342, 1355, 1378, 1391, 1414, 1437, 1450, 1473, 1486, 1519, 1552, 1585, 1608, 1631, 1654, 1677, 1720, 1793], 267) := dq_ok (by decide +kernel)
set_option maxRecDepth 4000 in
theorem law_switch {p : Program} {l : Launch} {e : Env} {s : State} {m : MethodId} {below : List Frame} {meth : Method} {c : Code} {D : va_G} {t : Nat → ClassId} {b L : Nat} {xs : Nat → Int32} {J : Nat} {i : Int32} {H : Heap} {locs : List Loc} {ls : Array Slot} {cells slots : Nat} (hC : LCT p l e s m below meth c b L xs D t ls i J cells slots) (hI : LAWI D t s.heap.size (s.heap.size + 304) (fun q => s.heap.size ≤ q) s H locs) (k : Nat) (hk : k < 63) : ∃ (off : Int) (tgt : Nat), (#[267, 330, 353, 366, 389, 422, 455, 488, 521, 544, 567, 590, 603, 626, 659, 672, 695, 748, 761, 784, 797, 810, 843, 856, 869, 882, 895, 908, 921, 944, 957, 970, 983, 1016, 1059, 1102, 1135, 1178, 1211, 1224, 1237, 1260, 1283, 1306, 1329, 1342, 1355, 1378, 1391, 1414, 1437, 1450, 1473, 1486, 1519, 1552, 1585, 1608, 1631, 1654, 1677, 1720, 1793] : Array Int)[k]? = some off ∧ ((33 : Nat) : Int) + off = (tgt : Int) ∧ W p l e room_1 s m #[.ref b] below meth c H locs cells slots (lw_Z below #[.ref b] s) (F0 m tgt ls []) := by
  match k, hk with
  | 0, _ => exact ⟨267, 300, rfl, rfl, case_0 hC hI⟩
  | 1, _ => exact ⟨330, 363, rfl, rfl, case_1 hC hI⟩
  | 2, _ => exact ⟨353, 386, rfl, rfl, case_2 hC hI⟩
  | 3, _ => exact ⟨366, 399, rfl, rfl, case_3 hC hI⟩
  | 4, _ => exact ⟨389, 422, rfl, rfl, case_4 hC hI⟩
  | 5, _ => exact ⟨422, 455, rfl, rfl, case_5 hC hI⟩
  | 6, _ => exact ⟨455, 488, rfl, rfl, case_6 hC hI⟩
  | 7, _ => exact ⟨488, 521, rfl, rfl, case_7 hC hI⟩
  | 8, _ => exact ⟨521, 554, rfl, rfl, case_8 hC hI⟩
  | 9, _ => exact ⟨544, 577, rfl, rfl, case_9 hC hI⟩
  | 10, _ => exact ⟨567, 600, rfl, rfl, case_10 hC hI⟩
  | 11, _ => exact ⟨590, 623, rfl, rfl, case_11 hC hI⟩
  | 12, _ => exact ⟨603, 636, rfl, rfl, case_12 hC hI⟩
  | 13, _ => exact ⟨626, 659, rfl, rfl, case_13 hC hI⟩
  | 14, _ => exact ⟨659, 692, rfl, rfl, case_14 hC hI⟩
  | 15, _ => exact ⟨672, 705, rfl, rfl, case_15 hC hI⟩
  | 16, _ => exact ⟨695, 728, rfl, rfl, case_16 hC hI⟩
  | 17, _ => exact ⟨748, 781, rfl, rfl, case_17 hC hI⟩
  | 18, _ => exact ⟨761, 794, rfl, rfl, case_18 hC hI⟩
  | 19, _ => exact ⟨784, 817, rfl, rfl, case_19 hC hI⟩
  | 20, _ => exact ⟨797, 830, rfl, rfl, case_20 hC hI⟩
  | 21, _ => exact ⟨810, 843, rfl, rfl, case_21 hC hI⟩
  | 22, _ => exact ⟨843, 876, rfl, rfl, case_22 hC hI⟩
  | 23, _ => exact ⟨856, 889, rfl, rfl, case_23 hC hI⟩
  | 24, _ => exact ⟨869, 902, rfl, rfl, case_24 hC hI⟩
  | 25, _ => exact ⟨882, 915, rfl, rfl, case_25 hC hI⟩
  | 26, _ => exact ⟨895, 928, rfl, rfl, case_26 hC hI⟩
  | 27, _ => exact ⟨908, 941, rfl, rfl, case_27 hC hI⟩
  | 28, _ => exact ⟨921, 954, rfl, rfl, case_28 hC hI⟩
  | 29, _ => exact ⟨944, 977, rfl, rfl, case_29 hC hI⟩
  | 30, _ => exact ⟨957, 990, rfl, rfl, case_30 hC hI⟩
  | 31, _ => exact ⟨970, 1003, rfl, rfl, case_31 hC hI⟩
  | 32, _ => exact ⟨983, 1016, rfl, rfl, case_32 hC hI⟩
  | 33, _ => exact ⟨1016, 1049, rfl, rfl, case_33 hC hI⟩
  | 34, _ => exact ⟨1059, 1092, rfl, rfl, case_34 hC hI⟩
  | 35, _ => exact ⟨1102, 1135, rfl, rfl, case_35 hC hI⟩
  | 36, _ => exact ⟨1135, 1168, rfl, rfl, case_36 hC hI⟩
  | 37, _ => exact ⟨1178, 1211, rfl, rfl, case_37 hC hI⟩
  | 38, _ => exact ⟨1211, 1244, rfl, rfl, case_38 hC hI⟩
  | 39, _ => exact ⟨1224, 1257, rfl, rfl, case_39 hC hI⟩
  | 40, _ => exact ⟨1237, 1270, rfl, rfl, case_40 hC hI⟩
  | 41, _ => exact ⟨1260, 1293, rfl, rfl, case_41 hC hI⟩
  | 42, _ => exact ⟨1283, 1316, rfl, rfl, case_42 hC hI⟩
  | 43, _ => exact ⟨1306, 1339, rfl, rfl, case_43 hC hI⟩
  | 44, _ => exact ⟨1329, 1362, rfl, rfl, case_44 hC hI⟩
  | 45, _ => exact ⟨1342, 1375, rfl, rfl, case_45 hC hI⟩
  | 46, _ => exact ⟨1355, 1388, rfl, rfl, case_46 hC hI⟩
  | 47, _ => exact ⟨1378, 1411, rfl, rfl, case_47 hC hI⟩
  | 48, _ => exact ⟨1391, 1424, rfl, rfl, case_48 hC hI⟩
  | 49, _ => exact ⟨1414, 1447, rfl, rfl, case_49 hC hI⟩
  | 50, _ => exact ⟨1437, 1470, rfl, rfl, case_50 hC hI⟩
  | 51, _ => exact ⟨1450, 1483, rfl, rfl, case_51 hC hI⟩
  | 52, _ => exact ⟨1473, 1506, rfl, rfl, case_52 hC hI⟩
  | 53, _ => exact ⟨1486, 1519, rfl, rfl, case_53 hC hI⟩
  | 54, _ => exact ⟨1519, 1552, rfl, rfl, case_54 hC hI⟩
  | 55, _ => exact ⟨1552, 1585, rfl, rfl, case_55 hC hI⟩
  | 56, _ => exact ⟨1585, 1618, rfl, rfl, case_56 hC hI⟩
  | 57, _ => exact ⟨1608, 1641, rfl, rfl, case_57 hC hI⟩
  | 58, _ => exact ⟨1631, 1664, rfl, rfl, case_58 hC hI⟩
  | 59, _ => exact ⟨1654, 1687, rfl, rfl, case_59 hC hI⟩
  | 60, _ => exact ⟨1677, 1710, rfl, rfl, case_60 hC hI⟩
  | 61, _ => exact ⟨1720, 1753, rfl, rfl, case_61 hC hI⟩
  | 62, _ => exact ⟨1793, 1826, rfl, rfl, case_62 hC hI⟩
  | n + 63, h => exact absurd h (by omega)
theorem law_exit {p : Program} {l : Launch} {e : Env} {s : State} {m : MethodId} {below : List Frame} {meth : Method} {c : Code} {b : Nat} {H : Heap} {locs : List Loc} {ls : Array Slot} {cells slots : Nat} (X : CX p s m #[.ref b] meth c RL code 4 ret) (hlo : ∀ q ∈ locs, s.heap.size ≤ q.base) (hc : cells ≤ 600000 ∧ slots ≤ 7302249) : W p l e room_1 s m #[.ref b] below meth c H locs cells slots (lw_Z below #[.ref b] s) (F0 m 1895 ls []) := by
  refine va_forget hlo ?_
  refine lv_iconst (v := 1) X.1 X.2.1 (show decode code 1895 = .ok (.iconst 1, 1) from dq_ok (by decide +kernel)) (by decide) ?_
  refine W.widen hc.1 hc.2 ?_
  exact lw_ret X.1 X.2.1 X.2.2.2.2.2.2 X.2.2.2.2.2.1 (show decode code 1896 = .ok (.ireturn, 1) from dq_ok (by decide +kernel))
/-- at the loop's head, J ints of the script read -/
theorem law_loop {p : Program} {l : Launch} {e : Env} {s : State} {m : MethodId} {below : List Frame} {meth : Method} {c : Code} {D : va_G} {t : Nat → ClassId} {b L : Nat} {xs : Nat → Int32} {cells slots : Nat} (X : CX p s m #[.ref b] meth c RL code 4 ret) (hX : va_X b L xs s s.heap) (hbl : b < s.heap.size) (hL : L ≤ 3072) (hc : cells ≤ 600000 ∧ slots ≤ 7302249) : ∀ (n J : Nat) (i : Int32) (ls : Array Slot) (H : Heap) (locs : List Loc), L + 6 ≤ J + n → J ≤ L + 6 → i.toInt = J → lv_has ls 4 (lawL b s.heap.size i) → LAWI D t s.heap.size (s.heap.size + 304) (fun q => s.heap.size ≤ q) s H locs → W p l e room_1 s m #[.ref b] below meth c H locs cells slots (lw_Z below #[.ref b] s) (F0 m 18 ls []) := by
  intro n
  have hbA : ¬ (fun q : Nat => s.heap.size ≤ q) b := Nat.not_le.mpr hbl
  have eL : (Int32.ofNat L).toInt = L := Int32.toInt_ofNat_of_lt (by omega)
  have e6 : (6 : Int32).toInt = 6 := rfl
  have eS : (Int32.ofNat L - 6).toInt = (L : Int) - 6 := by
    rw [Int32.toInt_sub, eL, e6]
    exact Int.bmod_eq_of_le (by omega) (by omega)
  induction n with
  | zero =>
    intro J i ls H locs h1 h2 hi hl hI
    obtain ⟨b0, fc0, fm0, hI0⟩ := id hI
    have hS := hI0.1.2.2.2
    refine lv_iload_n X.1 X.2.1 (show decode code 18 = .ok (.iload_n 3, 1) from dq_ok (by decide +kernel)) rfl (lv_at hl 0 rfl) ?_
    refine lv_aload_n X.1 X.2.1 (show decode code 19 = .ok (.aload_n 0, 1) from dq_ok (by decide +kernel)) rfl (lv_at hl 3 rfl) ?_
    refine va_slen X.1 X.2.1 hX hbl hbA hS (show decode code 20 = .ok (.arraylength, 1) from dq_ok (by decide +kernel)) ?_
    refine lv_bipush (v := 6) X.1 X.2.1 (show decode code 21 = .ok (.bipush 6, 2) from dq_ok (by decide +kernel)) (by decide) ?_
    refine lv_isub X.1 X.2.1 (show decode code 23 = .ok (.isub, 1) from dq_ok (by decide +kernel)) ?_
    refine lv_icmp_gt (tgt := 1895) X.1 X.2.1 (show decode code 24 = .ok (.if_icmp .gt 1871, 3) from dq_ok (by decide +kernel)) (by decide) (fun _ => law_exit X hS.2.2 hc) (fun h => ?_)
    exact absurd (Int32.lt_iff_toInt_lt.mpr (by omega)) h
  | succ n ih =>
    intro J i ls H locs h1 h2 hi hl hI
    obtain ⟨b0, fc0, fm0, hI0⟩ := id hI
    have hS := hI0.1.2.2.2
    refine lv_iload_n X.1 X.2.1 (show decode code 18 = .ok (.iload_n 3, 1) from dq_ok (by decide +kernel)) rfl (lv_at hl 0 rfl) ?_
    refine lv_aload_n X.1 X.2.1 (show decode code 19 = .ok (.aload_n 0, 1) from dq_ok (by decide +kernel)) rfl (lv_at hl 3 rfl) ?_
    refine va_slen X.1 X.2.1 hX hbl hbA hS (show decode code 20 = .ok (.arraylength, 1) from dq_ok (by decide +kernel)) ?_
    refine lv_bipush (v := 6) X.1 X.2.1 (show decode code 21 = .ok (.bipush 6, 2) from dq_ok (by decide +kernel)) (by decide) ?_
    refine lv_isub X.1 X.2.1 (show decode code 23 = .ok (.isub, 1) from dq_ok (by decide +kernel)) ?_
    refine lv_icmp_gt (tgt := 1895) X.1 X.2.1 (show decode code 24 = .ok (.if_icmp .gt 1871, 3) from dq_ok (by decide +kernel)) (by decide) (fun _ => law_exit X hS.2.2 hc) (fun h => ?_)
    have hJ : J + 6 ≤ L := by
      have h2 : ¬ (Int32.ofNat L - 6).toInt < i.toInt := fun q => h (Int32.lt_iff_toInt_lt.mpr q)
      omega
    have hi6 : (i + 6).toInt = ((J + 6 : Nat) : Int) := by
      rw [Int32.toInt_add, hi, e6]
      rw [Int.bmod_eq_of_le (by omega) (by omega)]
      omega
    have tail : ∀ (H1 : Heap) (locs1 : List Loc), LAWI D t s.heap.size (s.heap.size + 304) (fun q => s.heap.size ≤ q) s H1 locs1 → W p l e room_1 s m #[.ref b] below meth c H1 locs1 cells slots (lw_Z below #[.ref b] s) (F0 m 1889 ls []) := by
      intro H1 locs1 hI1
      refine lv_iinc (v := i + 6) (lv' := lawL b s.heap.size (i + 6)) X.1 X.2.1 (show decode code 1889 = .ok (.iinc 3 6, 3) from dq_ok (by decide +kernel)) hl (k := 0) rfl rfl (by decide) rfl (fun ls hl => ?_)
      refine lv_goto (tgt := 18) X.1 X.2.1 (show decode code 1892 = .ok (.goto (-1874), 3) from dq_ok (by decide +kernel)) (by decide) ?_
      exact ih (J + 6) (i + 6) ls H1 locs1 (by omega) (by omega) hi6 hl hI1
    have hC : LCT p l e s m below meth c b L xs D t ls i J cells slots := ⟨X, hX, hbl, ⟨hL, hi, hJ⟩, hl, hc, tail⟩
    refine lv_aload_n X.1 X.2.1 (show decode code 27 = .ok (.aload_n 0, 1) from dq_ok (by decide +kernel)) rfl (lv_at hl 3 rfl) ?_
    refine lv_iload_n X.1 X.2.1 (show decode code 28 = .ok (.iload_n 3, 1) from dq_ok (by decide +kernel)) rfl (lv_at hl 0 rfl) ?_
    refine va_sld X.1 X.2.1 hX hbl hbA hS (vp_in_iff.mpr ⟨by omega, by omega⟩) (show decode code 29 = .ok (.iaload, 1) from dq_ok (by decide +kernel)) ?_
    refine lv_bipush (v := 63) X.1 X.2.1 (show decode code 30 = .ok (.bipush 63, 2) from dq_ok (by decide +kernel)) (by decide) ?_
    refine lv_iand X.1 X.2.1 (show decode code 32 = .ok (.iand, 1) from dq_ok (by decide +kernel)) ?_
    generalize xs i.toNatClampNeg &&& 63 = z
    by_cases hz : z.toInt < 0 ∨ 62 < z.toInt
    · exact lv_tableOut (tgt := 1889) X.1 X.2.1 dsw hz (by decide) (tail H locs hI)
    · obtain ⟨off, tgt, o1, o2, o3⟩ := law_switch hC hI z.toInt.toNat (by omega)
      exact lv_tableIn X.1 X.2.1 dsw (by omega) (by omega) (by rw [Int.sub_zero]; exact o1) o2 o3
theorem KL_len : KL.length = 321 := by decide +kernel
def R_law : String := "BellMoneyLaw"
/-- what holds at the law's entry -/
def lw_At (p : Program) (s : State) (m : MethodId) (meth : Method) (c : Code) (b L : Nat) (xs : Nat → Int32) : Prop :=
  p.tables.exec = Jvm.exec ∧ c.code = code ∧ meth.sig.returnType = ret ∧ c.maxLocals = 4 ∧ s.vm.findClass R_law = some m.cls ∧ (∀ w ∈ lw_tbl, w.before #[Value.ref b] s = true) ∧ va_X b L xs s s.heap ∧ b < s.heap.size ∧ meth.locks = false ∧ (Jvm.Cond.and given_1 narrow_1).before #[Value.ref b] s = true
/-- from the entry, for every script of at most 3072 ints, the law comes to its end with true -/
theorem whole_start {p : Program} {e : Env} {s : State} {m : MethodId} {below : List Frame} {meth : Method} {c : Code} (l : Launch) {b L : Nat} {xs : Nat → Int32} (hL : L ≤ 3072) (C0 : lw_At p s m meth c b L xs) : W p l e room_1 s m #[Value.ref b] below meth c s.heap [] 0 0 (lw_Z below #[Value.ref b] s) (entryFrame m ([Value.ref b] : List Value).toArray 4) := by
  obtain ⟨hx, hb, hr, hml, hown, hts, hX, hbl, hlocks, hgv⟩ := C0
  have X : CX p s m #[.ref b] meth c RL code 4 ret := ⟨hx, hb, hml, hown, fun w h => hts w (Wd_in w h), hlocks, hr⟩
  obtain ⟨D, t, hK, hSX⟩ := lw_known hts hgv
  have hN := lw_nest hts
  have hl := lv_entry ([.ref b]) (n := 4) (Nat.le_of_ble_eq_true rfl)
  rw [lg_entry_eq]
  generalize (lg_sl ([.ref b]) ++ List.replicate (4 - (lg_sl ([.ref b])).length) Slot.unset).toArray = ls at hl ⊢
  have hl : lv_has ls 4 [(0, .ref b)] := hl
  have hN0 : NL D t s.heap.size [] s s.heap [] := ⟨⟨hK, px_Pof (fun a h1 h2 => by simp at h2; omega), ⟨fun q h1 _ => h1, hSX⟩, va_S.rf⟩, by simp, Nat.le_refl _, hN⟩
  refine krun_ok (lo := s.heap.size) (ext := [b]) (R := room_1) X (kt_L_ok l D t) (Or.inl rfl) (by decide) (by decide) ?_ 11 (0, [], [(0, kvE 0)], [], 0, 0) KL_run s.heap [] ls ⟨hN0, hl⟩
  intro H locs ls hs
  obtain ⟨hNL, hl⟩ := hs
  have hl : lv_has ls 4 [(2, .ref (s.heap.size + 304)), (1, .ref s.heap.size), (0, .ref b)] := hl
  have hH : HX D t s.heap.size 321 (F00 t s.heap.size b) (fun q => s.heap.size ≤ q) s H locs := by
    have h1 := hNL.1
    rw [List.length_map, KL_len] at h1
    exact h1
  refine lv_iconst (v := 0) X.1 X.2.1 (show decode code 16 = .ok (.iconst 0, 1) from dq_ok (by decide +kernel)) (by decide) ?_
  refine lv_istore_n (lv' := lawL b s.heap.size 0) X.1 X.2.1 (show decode code 17 = .ok (.istore_n 3, 1) from dq_ok (by decide +kernel)) rfl hl (by decide) rfl (fun ls hl => ?_)
  exact law_loop X hX hbl hL (by decide) (L + 6) 0 0 ls H locs (by omega) (by omega) rfl hl (lawi0 hH)
