/-! THE LAW: what is known at its entry -/
theorem ka_0 : Jvm.Cond.arrayClass Jvm.ClassFile.FieldType.int ∈ lw_tbl := List.mem_of_getElem? (i := 248) (by decide +kernel)
theorem ka_1 : Jvm.Cond.arrayClass Jvm.ClassFile.FieldType.long ∈ lw_tbl := List.mem_of_getElem? (i := 247) (by decide +kernel)
theorem ka_2 : Jvm.Cond.arrayClass Jvm.ClassFile.FieldType.byte ∈ lw_tbl := List.mem_of_getElem? (i := 147) (by decide +kernel)
theorem ka_3 : Jvm.Cond.arrayClass Jvm.ClassFile.FieldType.boolean ∈ lw_tbl := List.mem_of_getElem? (i := 287) (by decide +kernel)
theorem ka_4 : Jvm.Cond.arrayOver (Jvm.ClassFile.FieldType.object "BellMoney$State") ∈ lw_tbl := List.mem_of_getElem? (i := 448) (by decide +kernel)
theorem ka_5 : Jvm.Cond.arrayOver (Jvm.ClassFile.FieldType.object "BellMoney$World") ∈ lw_tbl := List.mem_of_getElem? (i := 149) (by decide +kernel)
theorem ka_6 : Jvm.Cond.arrayOver (Jvm.ClassFile.FieldType.object "BellMoney$Row") ∈ lw_tbl := List.mem_of_getElem? (i := 151) (by decide +kernel)
theorem kb_0 : Jvm.Cond.instantiable "BellMoney$Bells" (4 : Nat) ∈ lw_tbl := List.mem_of_getElem? (i := 300) (by decide +kernel)
theorem kb_1 : Jvm.Cond.instantiable "BellMoney$Choice" (9 : Nat) ∈ lw_tbl := List.mem_of_getElem? (i := 250) (by decide +kernel)
theorem kb_2 : Jvm.Cond.instantiable "BellMoney$Forecast" (10 : Nat) ∈ lw_tbl := List.mem_of_getElem? (i := 153) (by decide +kernel)
theorem kb_3 : Jvm.Cond.instantiable "BellMoney$Law" (3 : Nat) ∈ lw_tbl := List.mem_of_getElem? (i := 324) (by decide +kernel)
theorem kb_4 : Jvm.Cond.instantiable "BellMoney$Reader" (9 : Nat) ∈ lw_tbl := List.mem_of_getElem? (i := 474) (by decide +kernel)
theorem kb_5 : Jvm.Cond.instantiable "BellMoney$Row" (4 : Nat) ∈ lw_tbl := List.mem_of_getElem? (i := 509) (by decide +kernel)
theorem kb_6 : Jvm.Cond.instantiable "BellMoney$State" (8 : Nat) ∈ lw_tbl := List.mem_of_getElem? (i := 159) (by decide +kernel)
theorem kb_7 : Jvm.Cond.instantiable "BellMoney$Tape" (2 : Nat) ∈ lw_tbl := List.mem_of_getElem? (i := 132) (by decide +kernel)
theorem kb_8 : Jvm.Cond.instantiable "BellMoney$Town" (19 : Nat) ∈ lw_tbl := List.mem_of_getElem? (i := 294) (by decide +kernel)
theorem kb_9 : Jvm.Cond.instantiable "BellMoney$World" (5 : Nat) ∈ lw_tbl := List.mem_of_getElem? (i := 288) (by decide +kernel)
theorem kb_10 : Jvm.Cond.instantiable "BellMoney" (8 : Nat) ∈ lw_tbl := List.mem_of_getElem? (i := 124) (by decide +kernel)
theorem kb_11 : Jvm.Cond.instantiable "BellMoneyModel" (49 : Nat) ∈ lw_tbl := List.mem_of_getElem? (i := 1357) (by decide +kernel)
theorem nest_in : ∀ w ∈ px_nest, w ∈ lw_tbl := by decide +kernel
theorem nest_on : ∀ w ∈ px_nest, w.onTables = true := by decide +kernel
/-- the classes of the arrays, then the texts -/
def tS (ts : List ClassId) (adK adV : Nat → Nat) : Nat → ClassId := fun k => if k < 100 then ts.getD k 0 else if k < 200 then adK (k - 100) else adV (k - 200)
theorem tS_K {ts : List ClassId} {adK adV : Nat → Nat} {i : Nat} (h : i < 19) : tS ts adK adV (100 + i) = adK i := by
  unfold tS
  rw [if_neg (by omega), if_pos (by omega), show 100 + i - 100 = i by omega]
theorem tS_V {ts : List ClassId} {adK adV : Nat → Nat} {i : Nat} : tS ts adK adV (200 + i) = adV i := by
  unfold tS
  rw [if_neg (by omega), if_neg (by omega), show 200 + i - 200 = i by omega]
def stmT (i : Nat) : Term := .string "BellMoney$Reader" (strI.getD i 0)
abbrev nG : List Cond := flatC (Jvm.Cond.and given_1 narrow_1)
theorem tx_ex : ∀ i ∈ List.range 19, Cond.exactly (stmT i) "java/lang/String" ∈ nG := by decide +kernel
theorem tx_co : ∀ i ∈ List.range 19, Cond.eq (.field (stmT i) "java/lang/String" "coder" "B") (.int 0) ∈ nG := by decide +kernel
theorem tx_ar : ∀ i ∈ List.range 19, Cond.arrayOf (.field (stmT i) "java/lang/String" "value" "[B") .byte ∈ nG := by decide +kernel
theorem tx_le : ∀ i ∈ List.range 19, Cond.eq (.length (.field (stmT i) "java/lang/String" "value" "[B")) (.int (Int32.ofNat (strL.getD i 0))) ∈ nG := by decide +kernel
theorem tx_el : ∀ i ∈ List.range 19, ∀ j ∈ List.range (strL.getD i 0), Cond.eq (.elem (.field (stmT i) "java/lang/String" "value" "[B") (.int (Int32.ofNat j))) (.int ((strB.getD i []).getD j 0)) ∈ nG := by decide +kernel
/-- conditions that stand at these places -/
def pick : List Cond → Nat → List (Nat × Nat × Nat) → Bool
  | _, _, [] => true
  | [], _, _ => false
  | c :: cs, k, (q, i, j) :: es => if k = q then decide (c = Cond.not (Cond.eq (stmT i) (stmT j))) && pick cs (k + 1) es else pick cs (k + 1) ((q, i, j) :: es)
theorem pick_ok : ∀ {cs : List Cond} {k : Nat} {es : List (Nat × Nat × Nat)}, pick cs k es = true → ∀ q i j, (q, i, j) ∈ es → Cond.not (Cond.eq (stmT i) (stmT j)) ∈ cs
  | _, _, [], _, q, i, j, h => absurd h List.not_mem_nil
  | c :: cs, k, (q0, i0, j0) :: es, h, q, i, j, hm => by
    unfold pick at h
    split at h
    · simp only [Bool.and_eq_true, decide_eq_true_eq] at h
      rcases List.mem_cons.mp hm with e | e
      · cases e
        rw [h.1]
        exact List.mem_cons_self
      · exact List.mem_cons_of_mem _ (pick_ok h.2 q i j e)
    · exact List.mem_cons_of_mem _ (pick_ok h q i j hm)
def neT : List (Nat × Nat × Nat) := [(61, 8, 9), (71, 8, 10), (72, 9, 10), (80, 8, 11), (81, 9, 11), (82, 10, 11), (92, 8, 12), (93, 9, 12), (94, 10, 12), (95, 11, 12), (105, 8, 13), (106, 9, 13), (107, 10, 13), (108, 11, 13), (109, 12, 13), (119, 8, 0), (120, 9, 0), (121, 10, 0), (122, 11, 0), (123, 12, 0), (124, 13, 0), (134, 8, 14), (135, 9, 14), (136, 10, 14), (137, 11, 14), (138, 12, 14), (139, 13, 14), (140, 0, 14), (149, 8, 1), (150, 9, 1), (151, 10, 1), (152, 11, 1), (153, 12, 1), (154, 13, 1), (155, 0, 1), (156, 14, 1), (164, 8, 15), (165, 9, 15), (166, 10, 15), (167, 11, 15), (168, 12, 15), (169, 13, 15), (170, 0, 15), (171, 14, 15), (172, 1, 15), (181, 8, 16), (182, 9, 16), (183, 10, 16), (184, 11, 16), (185, 12, 16), (186, 13, 16), (187, 0, 16), (188, 14, 16), (189, 1, 16), (190, 15, 16), (197, 8, 17), (198, 9, 17), (199, 10, 17), (200, 11, 17), (201, 12, 17), (202, 13, 17), (203, 0, 17), (204, 14, 17), (205, 1, 17), (206, 15, 17), (207, 16, 17), (219, 8, 18), (220, 9, 18), (221, 10, 18), (222, 11, 18), (223, 12, 18), (224, 13, 18), (225, 0, 18), (226, 14, 18), (227, 1, 18), (228, 15, 18), (229, 16, 18), (230, 17, 18), (239, 8, 2), (240, 9, 2), (241, 10, 2), (242, 11, 2), (243, 12, 2), (244, 13, 2), (245, 0, 2), (246, 14, 2), (247, 1, 2), (248, 15, 2), (249, 16, 2), (250, 17, 2), (251, 18, 2), (260, 8, 3), (261, 9, 3), (262, 10, 3), (263, 11, 3), (264, 12, 3), (265, 13, 3), (266, 0, 3), (267, 14, 3), (268, 1, 3), (269, 15, 3), (270, 16, 3), (271, 17, 3), (272, 18, 3), (273, 2, 3), (281, 8, 4), (282, 9, 4), (283, 10, 4), (284, 11, 4), (285, 12, 4), (286, 13, 4), (287, 0, 4), (288, 14, 4), (289, 1, 4), (290, 15, 4), (291, 16, 4), (292, 17, 4), (293, 18, 4), (294, 2, 4), (295, 3, 4), (305, 8, 5), (306, 9, 5), (307, 10, 5), (308, 11, 5), (309, 12, 5), (310, 13, 5), (311, 0, 5), (312, 14, 5), (313, 1, 5), (314, 15, 5), (315, 16, 5), (316, 17, 5), (317, 18, 5), (318, 2, 5), (319, 3, 5), (320, 4, 5), (330, 8, 6), (331, 9, 6), (332, 10, 6), (333, 11, 6), (334, 12, 6), (335, 13, 6), (336, 0, 6), (337, 14, 6), (338, 1, 6), (339, 15, 6), (340, 16, 6), (341, 17, 6), (342, 18, 6), (343, 2, 6), (344, 3, 6), (345, 4, 6), (346, 5, 6), (356, 8, 7), (357, 9, 7), (358, 10, 7), (359, 11, 7), (360, 12, 7), (361, 13, 7), (362, 0, 7), (363, 14, 7), (364, 1, 7), (365, 15, 7), (366, 16, 7), (367, 17, 7), (368, 18, 7), (369, 2, 7), (370, 3, 7), (371, 4, 7), (372, 5, 7), (373, 6, 7)]
theorem neT_ok : pick nG 0 neT = true := by decide +kernel
theorem neT_all : ∀ i ∈ List.range 19, ∀ j ∈ List.range 19, i ≠ j → neT.any (fun e => (e.2.1 == i && e.2.2 == j) || (e.2.1 == j && e.2.2 == i)) = true := by decide +kernel
theorem tx_ne : ∀ i ∈ List.range 19, ∀ j ∈ List.range 19, i ≠ j → Cond.not (Cond.eq (stmT i) (stmT j)) ∈ nG ∨ Cond.not (Cond.eq (stmT j) (stmT i)) ∈ nG := by
  intro i hi j hj hij
  obtain ⟨⟨q, u, v⟩, h1, h2⟩ := List.any_eq_true.mp (neT_all i hi j hj hij)
  simp only [Bool.or_eq_true, Bool.and_eq_true, beq_iff_eq] at h2
  have := pick_ok neT_ok q u v h1
  rcases h2 with ⟨rfl, rfl⟩ | ⟨rfl, rfl⟩
  · exact Or.inl this
  · exact Or.inr this
theorem tx_rf : ∀ i ∈ List.range 19, Cond.stringRef "BellMoney$Reader" (strI.getD i 0) (strT.getD i "") ∈ lw_tbl := by decide +kernel
theorem tx_ln : ∀ i ∈ List.range 19, strL.getD i 0 < 2 ^ 31 := by decide +kernel
theorem lw_text {s : State} {b : Nat} (hgv : (Jvm.Cond.and given_1 narrow_1).before #[Value.ref b] s = true) : ∃ adK adV : Nat → Nat, vk_S 19 strL strB adK adV (fun q => s.heap.size ≤ q) s s.heap ∧ ∀ i : Nat, i < 19 → (stmT i).eval #[Value.ref b] s none [] s = some (.ref (adK i)) := by
  have hs := flat_of_before _ hgv
  refine vk_Sof (tm := stmT) (fun i hi => tx_ln i (List.mem_range.mpr hi)) (fun i hi => hs _ (tx_ex i (List.mem_range.mpr hi))) (fun i hi => hs _ (tx_co i (List.mem_range.mpr hi))) (fun i hi => hs _ (tx_ar i (List.mem_range.mpr hi))) (fun i hi => hs _ (tx_le i (List.mem_range.mpr hi))) (fun i hi j hj => hs _ (tx_el i (List.mem_range.mpr hi) j (List.mem_range.mpr hj))) (fun i j hi hj hij => ?_) (fun a h q => absurd h (Nat.not_lt.mpr q))
  rcases tx_ne i (List.mem_range.mpr hi) j (List.mem_range.mpr hj) hij with h | h
  · exact Or.inl (hs _ h)
  · exact Or.inr (hs _ h)
theorem z_cs : Cond.laysStatic "java/lang/String" "COMPACT_STRINGS" "Z" ∈ lw_tbl ∧ Cond.initialized "java/lang/String" ∈ lw_tbl ∧ Cond.eq (Term.static "java/lang/String" "COMPACT_STRINGS" "Z") (Term.int 1) ∈ nG := by decide +kernel
theorem z_si : Cond.laysStatic "jdk/internal/util/Preconditions" "SIOOBE_FORMATTER" "Ljava/util/function/BiFunction;" ∈ lw_tbl ∧ Cond.initialized "jdk/internal/util/Preconditions" ∈ lw_tbl ∧ Cond.isRef (Term.static "jdk/internal/util/Preconditions" "SIOOBE_FORMATTER" "Ljava/util/function/BiFunction;") ∈ nG := by decide +kernel
theorem lw_SX {s : State} {b : Nat} {ts : List ClassId} {adK adV : Nat → Nat} (hts : ∀ w ∈ lw_tbl, w.before #[Value.ref b] s = true) (hgv : (Jvm.Cond.and given_1 narrow_1).before #[Value.ref b] s = true) (hS : vk_S 19 strL strB adK adV (fun q => s.heap.size ≤ q) s s.heap) (hE : ∀ i : Nat, i < 19 → (stmT i).eval #[Value.ref b] s none [] s = some (.ref (adK i))) : SX (tS ts adK adV) (fun q => s.heap.size ≤ q) s := by
  have hs := flat_of_before _ hgv
  have hA : ∀ a : Nat, a < s.heap.size → ¬ (fun q : Nat => s.heap.size ≤ q) a := fun a h q => absurd h (Nat.not_lt.mpr q)
  refine SX_eq.mpr ⟨⟨fun i hi => ?_, fun i j hi hj h => ?_⟩, fun i hi => ?_, va_Zof (hts _ z_cs.1) (hts _ z_cs.2.1) (va_eqt (hs _ z_cs.2.2)) hA, va_Zqof (hts _ z_si.1) (hts _ z_si.2.1) (hs _ z_si.2.2) hA⟩
  · simp only [tS_K hi, tS_V]
    exact hS.1 i hi
  · simp only [tS_K hi, tS_K hj] at h
    exact hS.2 i j hi hj h
  · rw [tS_K hi]
    exact vk_R.of (hts _ (tx_rf i (List.mem_range.mpr hi))) (hE i hi)
theorem lw_known {s : State} {b : Nat} (hts : ∀ w ∈ lw_tbl, w.before #[Value.ref b] s = true) (hgv : (Jvm.Cond.and given_1 narrow_1).before #[Value.ref b] s = true) : ∃ (D : va_G) (t : Nat → ClassId), va_K D vwCl (px_T t) s ∧ SX t (fun q => s.heap.size ≤ q) s := by
  obtain ⟨adK, adV, hS, hE⟩ := lw_text hgv
  obtain ⟨c0, i0, u0⟩ := u_known (C := RX0) (T := TX0) (N := 4) (n := 4) hts (fun w h => Wd_in w (iX0 w h)) (hts _ kb_0)
  obtain ⟨c1, i1, u1⟩ := u_known (C := RX1) (T := TX1) (N := 9) (n := 9) hts (fun w h => Wd_in w (iX1 w h)) (hts _ kb_1)
  obtain ⟨c2, i2, u2⟩ := u_known (C := RX2) (T := TX2) (N := 10) (n := 10) hts (fun w h => Wd_in w (iX2 w h)) (hts _ kb_2)
  obtain ⟨c3, i3, u3⟩ := u_known (C := RX3) (T := TX3) (N := 3) (n := 3) hts (fun w h => Wd_in w (iX3 w h)) (hts _ kb_3)
  obtain ⟨c4, i4, u4⟩ := u_known (C := RX4) (T := TX4) (N := 9) (n := 9) hts (fun w h => Wd_in w (iX4 w h)) (hts _ kb_4)
  obtain ⟨c5, i5, u5⟩ := u_known (C := RX5) (T := TX5) (N := 4) (n := 4) hts (fun w h => Wd_in w (iX5 w h)) (hts _ kb_5)
  obtain ⟨c6, i6, u6⟩ := u_known (C := RX6) (T := TX6) (N := 8) (n := 8) hts (fun w h => Wd_in w (iX6 w h)) (hts _ kb_6)
  obtain ⟨c7, i7, u7⟩ := u_known (C := RX7) (T := TX7) (N := 2) (n := 2) hts (fun w h => Wd_in w (iX7 w h)) (hts _ kb_7)
  obtain ⟨c8, i8, u8⟩ := u_known (C := RX8) (T := TX8) (N := 19) (n := 19) hts (fun w h => Wd_in w (iX8 w h)) (hts _ kb_8)
  obtain ⟨c9, i9, u9⟩ := u_known (C := RX9) (T := TX9) (N := 5) (n := 5) hts (fun w h => Wd_in w (iX9 w h)) (hts _ kb_9)
  obtain ⟨c10, i10, u10⟩ := u_known (C := RX10) (T := TX10) (N := 8) (n := 8) hts (fun w h => Wd_in w (iX10 w h)) (hts _ kb_10)
  obtain ⟨c11, i11, u11⟩ := u_known (C := RX11) (T := TX11) (N := 49) (n := 49) hts (fun w h => Wd_in w (iX11 w h)) (hts _ kb_11)
  obtain ⟨t0, a0, p0, v0, w0, z0⟩ := Cond.arrayClass_spec (hts _ ka_0)
  obtain ⟨t1, a1, p1, v1, w1, z1⟩ := Cond.arrayClass_spec (hts _ ka_1)
  obtain ⟨t2, a2, p2, v2, w2, z2⟩ := Cond.arrayClass_spec (hts _ ka_2)
  obtain ⟨t3, a3, p3, v3, w3, z3⟩ := Cond.arrayClass_spec (hts _ ka_3)
  obtain ⟨p4, t4, a4, x4, y4, w4, z4, v4⟩ := Cond.arrayOver_spec (hts _ ka_4)
  obtain ⟨p5, t5, a5, x5, y5, w5, z5, v5⟩ := Cond.arrayOver_spec (hts _ ka_5)
  obtain ⟨p6, t6, a6, x6, y6, w6, z6, v6⟩ := Cond.arrayOver_spec (hts _ ka_6)
  refine ⟨(fun k => [c0, c1, c2, c3, c4, c5, c6, c7, c8, c9, c10, c11].getD k 0, fun k => [i0, i1, i2, i3, i4, i5, i6, i7, i8, i9, i10, i11].getD k (fun _ => 0)), tS [t0, t1, t2, t3, t4, t5, t6] adK adV, ⟨?_, ?_⟩, lw_SX hts hgv hS hE⟩
  · intro k q hq
    match k, hq with
      | 0, hq => cases hq; exact u0
      | 1, hq => cases hq; exact u1
      | 2, hq => cases hq; exact u2
      | 3, hq => cases hq; exact u3
      | 4, hq => cases hq; exact u4
      | 5, hq => cases hq; exact u5
      | 6, hq => cases hq; exact u6
      | 7, hq => cases hq; exact u7
      | 8, hq => cases hq; exact u8
      | 9, hq => cases hq; exact u9
      | 10, hq => cases hq; exact u10
      | 11, hq => cases hq; exact u11
      | n + 12, hq => simp [vwCl] at hq
  · intro k q hq
    match k, hq with
      | 0, hq => cases hq; exact ⟨fun n z => ⟨(fun k h => by cases h), a0, w0, p0, z0⟩, v0⟩
      | 1, hq => cases hq; exact ⟨fun n z => ⟨(fun k h => by cases h), a1, w1, p1, z1⟩, v1⟩
      | 2, hq => cases hq; exact ⟨fun n z => ⟨(fun k h => by cases h), a2, w2, p2, z2⟩, v2⟩
      | 3, hq => cases hq; exact ⟨fun n z => ⟨(fun k h => by cases h), a3, w3, p3, z3⟩, v3⟩
      | 4, hq => cases hq; exact ⟨fun n z => ⟨(fun k h => by cases h), a4, w4, p4, z4⟩, a4, p4, w4, z4, x4, v4⟩
      | 5, hq => cases hq; exact ⟨fun n z => ⟨(fun k h => by cases h), a5, w5, p5, z5⟩, a5, p5, w5, z5, x5, v5⟩
      | 6, hq => cases hq; exact ⟨fun n z => ⟨(fun k h => by cases h), a6, w6, p6, z6⟩, a6, p6, w6, z6, x6, v6⟩
      | n + 7, hq => simp [px_T] at hq
theorem lw_nest {s : State} {b : Nat} (hts : ∀ w ∈ lw_tbl, w.before #[Value.ref b] s = true) : px_N s :=
  ⟨fun w hw => va_Nw.of (nest_on w hw) (hts w (nest_in w hw)), va_AO.of (hts _ ka_4), va_AO.of (hts _ ka_5), va_AO.of (hts _ ka_6)⟩
