/-! whyNot of the reference -/
theorem mw_1757 : Jvm.Cond.methodLink "BellMoneyModel" (385 : Nat) ({ cls := "BellMoneyModel", name := "plans", desc := "(I)V" } : Jvm.MethodName) ∈ Wd := List.mem_filter.mpr ⟨List.mem_of_getElem? (i := 1859) (by decide +kernel), by decide +kernel⟩
theorem mw_1759 : Jvm.Cond.instanceMethod ({ cls := "BellMoneyModel", name := "plans", desc := "(I)V" } : Jvm.MethodName) ∈ Wd := List.mem_filter.mpr ⟨List.mem_of_getElem? (i := 1861) (by decide +kernel), by decide +kernel⟩
theorem mw_1760 : Jvm.Cond.code ({ cls := "BellMoneyModel", name := "plans", desc := "(I)V" } : Jvm.MethodName) prog_13_method_83_code (4 : Nat) (Option.none : Option Jvm.ClassFile.FieldType) ∈ Wd := List.mem_filter.mpr ⟨List.mem_of_getElem? (i := 1862) (by decide +kernel), by decide +kernel⟩
theorem ms_82 : Cond.selects "BellMoneyModel" ⟨"BellMoneyModel", "plans", "(I)V"⟩ ⟨"BellMoneyModel", "plans", "(I)V"⟩ ∈ Wd := List.mem_filter.mpr ⟨List.mem_of_getElem? (i := 82) (by decide +kernel), by decide +kernel⟩
theorem mw_1752 : Jvm.Cond.methodLink "BellMoneyModel" (382 : Nat) ({ cls := "BellMoneyModel", name := "whyNot", desc := "(I)I" } : Jvm.MethodName) ∈ Wd := List.mem_filter.mpr ⟨List.mem_of_getElem? (i := 1854) (by decide +kernel), by decide +kernel⟩
theorem mw_1754 : Jvm.Cond.instanceMethod ({ cls := "BellMoneyModel", name := "whyNot", desc := "(I)I" } : Jvm.MethodName) ∈ Wd := List.mem_filter.mpr ⟨List.mem_of_getElem? (i := 1856) (by decide +kernel), by decide +kernel⟩
theorem mw_1755 : Jvm.Cond.code ({ cls := "BellMoneyModel", name := "whyNot", desc := "(I)I" } : Jvm.MethodName) prog_13_method_82_code (4 : Nat) (Option.some Jvm.ClassFile.FieldType.int) ∈ Wd := List.mem_filter.mpr ⟨List.mem_of_getElem? (i := 1857) (by decide +kernel), by decide +kernel⟩
theorem ms_81 : Cond.selects "BellMoneyModel" ⟨"BellMoneyModel", "whyNot", "(I)I"⟩ ⟨"BellMoneyModel", "whyNot", "(I)I"⟩ ∈ Wd := List.mem_filter.mpr ⟨List.mem_of_getElem? (i := 81) (by decide +kernel), by decide +kernel⟩
theorem ite_z {c : Prop} [Decidable c] : narrow .boolean (.int (if c then 1 else 0)) = .int (if c then 1 else 0) := by
  split <;> rfl
theorem c_isSlot (l : Launch) (D : va_G) (t : Nat → ClassId) (lo n : Nat) (f : Nat → va_E) (k : Int32) : MetM l yX11_isSlot cX11_isSlot 1 (some .boolean) 1 D t lo n f [.int k] f (some (.int (if (0 : Int64) ≤ k.toInt64 ∧ k.toInt64 ≤ 3 then 1 else 0))) := by
  refine MetM.start (by decide +kernel) (Nat.le_of_ble_eq_true rfl) ?_
  intro p e s m below meth cd X hH ls hl
  have hl : lv_has ls 1 [(0, .int k)] := hl
  refine lv_iload_n X.1 X.2.1 (show decode cX11_isSlot 0 = .ok (.iload_n 0, 1) by decide +kernel) rfl (lv_at hl 0 rfl) ?_
  refine lv_i2l (v := k.toInt64) X.1 X.2.1 (show decode cX11_isSlot 1 = .ok (.i2l, 1) by decide +kernel) rfl ?_
  refine lv_lconst (v := 0) X.1 X.2.1 (show decode cX11_isSlot 2 = .ok (.lconst 0, 1) by decide +kernel) rfl ?_
  refine lv_ldc2 X.1 X.2.1 (own := RX11) X.2.2.2.1 (X.2.2.2.2.1 _ mw_1415) (show decode cX11_isSlot 3 = .ok (.ldc2_w 68, 3) by decide +kernel) ?_
  refine px_callS (k := 0) (idx := 70) (na := 3) (As := [.long k.toInt64, .long 0, .long 3]) (rest := []) X hH (c_in l D t lo n f k.toInt64 0 3) mw_1416 mw_1417 mw_12 mw_1418 (by decide +kernel) ⟨by decide, by decide⟩ ⟨Nat.le_refl _, Nat.le_refl _⟩ hl.1 rfl rfl (by decide) (show decode cX11_isSlot 6 = .ok (.invokestatic 70, 3) by decide +kernel) (fun H2 locs2 hH _ => ?_)
  exact px_zret X hH rfl ite_z (show decode cX11_isSlot 9 = .ok (.ireturn, 1) by decide +kernel)
theorem c_isTown (l : Launch) (D : va_G) (t : Nat → ClassId) (lo n : Nat) (f : Nat → va_E) {fs : List Value} {g : Nat → Int32} (h0 : f lo = .inr (11, fs)) (h16 : fs[16]? = some (.ref (lo + 6))) (h6 : f (lo + 6) = .inl (t 0, 5, .inl g)) (hn : 17 ≤ n) : MetM l yX11_isTown cX11_isTown 1 (some .boolean) 0 D t lo n f [.ref lo] f (some (.int (if 0 < (g 0).toInt then 1 else 0))) := by
  refine MetM.start (by decide +kernel) (Nat.le_of_ble_eq_true rfl) ?_
  intro p e s m below meth cd X hH ls hl
  have hl : lv_has ls 1 [(0, .ref lo)] := hl
  refine lv_aload_n X.1 X.2.1 (show decode cX11_isTown 0 = .ok (.aload_n 0, 1) by decide +kernel) rfl (lv_at hl 0 rfl) ?_
  refine bx_get fl_X11_ok (i := 31) rfl X hH ⟨⟨by omega, by omega⟩, h0⟩ h16 (show decode cX11_isTown 1 = .ok (.getfield 31, 3) by decide +kernel) ?_
  refine lv_iconst (v := 0) X.1 X.2.1 (show decode cX11_isTown 4 = .ok (.iconst 0, 1) by decide +kernel) (by decide) ?_
  refine bx_iald X hH ⟨⟨by omega, by omega⟩, h6⟩ (j := 0) rfl (by decide) (by decide) (show decode cX11_isTown 5 = .ok (.iaload, 1) by decide +kernel) ?_
  refine lv_if_le (tgt := 13) X.1 X.2.1 (show decode cX11_isTown 6 = .ok (.ifCond .le 7, 3) by decide +kernel) (by decide) (fun q => ?_) (fun q => ?_)
  · rw [Int32.le_iff_toInt_le, show (0 : Int32).toInt = 0 from rfl] at q
    refine lv_iconst (v := 0) X.1 X.2.1 (show decode cX11_isTown 13 = .ok (.iconst 0, 1) by decide +kernel) (by decide) ?_
    exact px_zret X hH (by rw [if_neg (by omega)]) rfl (show decode cX11_isTown 14 = .ok (.ireturn, 1) by decide +kernel)
  · rw [Int32.le_iff_toInt_le, show (0 : Int32).toInt = 0 from rfl] at q
    refine lv_iconst (v := 1) X.1 X.2.1 (show decode cX11_isTown 9 = .ok (.iconst 1, 1) by decide +kernel) (by decide) ?_
    refine lv_goto (tgt := 14) X.1 X.2.1 (show decode cX11_isTown 10 = .ok (.goto 4, 3) by decide +kernel) (by decide) ?_
    exact px_zret X hH (by rw [if_pos (by omega)]) rfl (show decode cX11_isTown 14 = .ok (.ireturn, 1) by decide +kernel)
abbrev Ybn : XY := (yX11_bellsNow, cX11_bellsNow, 1, some .int, 7)
theorem c_bellsNow (l : Launch) (D : va_G) (t : Nat → ClassId) (lo : Nat) {f : Nat → va_E} (J : IM t lo f) : MetZ l Ybn D t lo 17 f [.ref lo] (fun ov f2 => ∃ (r : Int32) (N : Nat), ov = some (.int r) ∧ LINV t lo f N f2 ∧ 0 ≤ r.toInt ∧ r.toInt ≤ 10) := by
  refine MetZ.beg (by decide +kernel) (Nat.le_of_ble_eq_true rfl) ?_
  intro p e s m below meth c X hH ls hl
  have hl : lv_has ls 1 [(0, .ref lo)] := hl
  obtain ⟨fs1, r0, r49, rrf⟩ := typ_refs J.1
  have k0 : px_at lo 17 f lo (.inr (11, fs1)) := ⟨⟨by omega, by omega⟩, r0⟩
  obtain ⟨⟨n1, n2⟩, -⟩ := J.2.1.1 0 (by decide)
  rw [Nat.mul_zero, Nat.zero_add] at n1 n2
  obtain ⟨N, hN⟩ : ∃ N : Nat, cv f (lo + 7) 12 = (N : Int) := ⟨(cv f (lo + 7) 12).toNat, by omega⟩
  refine lv_aload_n X.1 X.2.1 (show decode cX11_bellsNow 0 = .ok (.aload_n 0, 1) by decide +kernel) rfl (lv_at hl 0 rfl) ?_
  refine z_callV (Y := Ym6) (n := 17) (idx := 333) (na := 0) (b := lo) (As := []) (rest := []) X hH (c_lays l D t lo J.2.1 (typ_ml rfl J.1) (VB_lm J.2.2 J.1 J.2.1) hN (by omega)) k0 (rfl : vwCl[11]? = some _) mw_1590 mw_1592 ms_63 mw_12 mw_1593 (by decide +kernel) ⟨by decide, by decide⟩ ⟨Nat.le_refl _, Nat.le_refl _⟩ hl.1 rfl rfl (by decide) (show decode cX11_bellsNow 1 = .ok (.invokevirtual 333, 3) by decide +kernel) (fun ov f3 hz H3 locs3 hH3 => ?_)
  obtain ⟨rfl, I⟩ := hz
  have I0 := I
  obtain ⟨v1, v2, v3, v4, v5, v6, v7⟩ := I0
  obtain ⟨ib, w1, w2, w3, w4⟩ := VB_at v1 trl_5 (show VLg[5]? = some (pI 0 10) from rfl)
  obtain ⟨fs5, r5, -, -⟩ := typ_refs (xt := xte El f t) (typ_lm rfl v2)
  rw [show lo + 0 = lo from rfl, r5] at w1
  refine lv_aload_n X.1 X.2.1 (show decode cX11_bellsNow 4 = .ok (.aload_n 0, 1) by decide +kernel) rfl (lv_at hl 0 rfl) ?_
  refine bx_get fl_X11_ok (i := 246) rfl X hH3 ⟨⟨by omega, by omega⟩, r5⟩ w1 (show decode cX11_bellsNow 5 = .ok (.getfield 246, 3) by decide +kernel) ?_
  exact z_iret X hH3 ⟨ib, N, rfl, I, w3, w4⟩ (show decode cX11_bellsNow 8 = .ok (.ireturn, 1) by decide +kernel)
abbrev Ywhy : XY := (yX11_whyNot, cX11_whyNot, 4, some .int, 9)
/-- its numbers are good up to i -/
def PLu (s j : Nat) (g : Nat → Int64) : Prop := ∀ i, i < j → 0 ≤ (g (60 * s + 2 * i + 1)).toInt ∧ (g (60 * s + 2 * i + 1)).toInt ≤ 9
abbrev WZ (t : Nat → ClassId) (lo : Nat) (f : Nat → va_E) (k : Int32) : Option Value → (Nat → va_E) → Prop := fun ov f2 => ∃ r : Int32, ov = some (.int r) ∧ IM t lo f2 ∧ KP lo f f2 ∧ (r = 0 → ∃ s, s < 4 ∧ k = nI s ∧ 1 ≤ cv f2 (lo + 6) 0 ∧ cv f2 (lo + 0) 27 ≤ 40 ∧ PLc s (f2 (lo + 2)) (f2 (lo + 3)))
theorem IM_LINV {t : Nat → ClassId} {lo N : Nat} {f f2 : Nat → va_E} (J : IM t lo f) (I : LINV t lo f N f2) : IM t lo f2 ∧ KP lo f f2 ∧ cv f2 (lo + 0) 27 ≤ 40 ∧ cv f2 (lo + 6) 0 = cv f (lo + 6) 0 ∧ f2 (lo + 1) = f (lo + 1) ∧ f2 (lo + 2) = f (lo + 2) ∧ f2 (lo + 3) = f (lo + 3) := by
  have G := GI_lays J.2.1 I
  have K := KP_lays I
  obtain ⟨v1, v2, v3, v4, v5, v6, v7⟩ := I
  obtain ⟨ib, w1, w2, w3, w4⟩ := VB_at v1 trl_6 (show VLg[6]? = some (pI 0 40) from rfl)
  exact ⟨⟨typ_lm rfl v2, G, VB_wide (VB_33 v1) (by decide +kernel) (by decide +kernel)⟩, K, by omega, gs_cv v3 rfl rfl ⟨(0, 4), by decide, by decide, by decide⟩, v3.2 1 1 rfl rfl, v3.2 2 2 rfl rfl, v3.2 3 3 rfl rfl⟩
theorem sub1 {n : Int32} (h1 : 0 ≤ n.toInt) (h2 : n.toInt ≤ 10) : (n.toInt64 - 1).toInt = n.toInt - 1 := by
  have z1 : lo64 = -9223372036854775808 := rfl
  have z2 : hi64 = 9223372036854775807 := rfl
  rw [Int64.toInt_sub, Int32.toInt_toInt64, show (1 : Int64).toInt = 1 from rfl, bm64 (by omega) (by omega)]
section
variable {p : Program} {l : Launch} {e : Env} {s0 : State} {m : MethodId} {args : Array Value} {below : List Frame} {meth : Method} {c : Code} {D : va_G} {t : Nat → ClassId} {lo : Nat} {f f2 : Nat → va_E} {s : Nat} {n w : Int32} {g2 : Nat → Int32} {g3 : Nat → Int64} {fs : List Value} {Z : Option Value → (Nat → va_E) → Prop}
theorem wn_loop (X : CX p s0 m args meth c RX11 cX11_whyNot 4 (some .int)) (hs : s < 4) (r0 : f2 lo = .inr (11, fs)) (o2 : fs[2]? = some (.ref (lo + 2))) (o3 : fs[3]? = some (.ref (lo + 3))) (p2 : f2 (lo + 2) = .inl (t 0, 4, .inl g2)) (p3 : f2 (lo + 3) = .inl (t 1, 240, .inr (.inl g3))) (hw : g2 s = w) (hw0 : 0 ≤ w.toInt) (hw6 : w.toInt ≤ 60) (he : w.toInt % 2 = 0) (hn0 : 0 ≤ n.toInt) (hn1 : n.toInt ≤ 10) (hbad : Z (some (.int (-2))) f2) (hgood : PLc s (f2 (lo + 2)) (f2 (lo + 3)) → Z (some (.int 0)) f2) : ∀ (d j : Nat) (H : Heap) (locs : List Loc) (ls : Array Slot), 31 ≤ j + d → 2 * (j : Int) ≤ w.toInt + 1 → PLu s j g3 → HX D t lo 17 f2 (px_A lo 17) s0 H locs → lv_has ls 4 [(3, .int (nI (2 * j))), (2, .int n), (0, .ref lo), (1, .int (nI s))] → W p l e (px_rm 9) s0 m args below meth c H locs 0 0 (MQ below (QcZ D lo 17 Z) args s0 0 0 (px_A lo 17)) (F0 m 51 ls []) := by
  have k0 : px_at lo 17 f2 lo (.inr (11, fs)) := ⟨⟨by omega, by omega⟩, r0⟩
  intro d
  induction d with
  | zero =>
    intro j H locs ls hd hj hP hH hl
    exfalso
    omega
  | succ d ih =>
    intro j H locs ls hd hj hP hH hl
    refine lv_iload_n X.1 X.2.1 (show decode cX11_whyNot 51 = .ok (.iload_n 3, 1) by decide +kernel) rfl (lv_at hl 0 rfl) ?_
    refine lv_aload_n X.1 X.2.1 (show decode cX11_whyNot 52 = .ok (.aload_n 0, 1) by decide +kernel) rfl (lv_at hl 2 rfl) ?_
    refine bx_get fl_X11_ok (i := 13) rfl X hH k0 o2 (show decode cX11_whyNot 53 = .ok (.getfield 13, 3) by decide +kernel) ?_
    refine lv_iload_n X.1 X.2.1 (show decode cX11_whyNot 56 = .ok (.iload_n 1, 1) by decide +kernel) rfl (lv_at hl 3 rfl) ?_
    refine bx_iald X hH ⟨⟨by omega, by omega⟩, p2⟩ (j := s) rfl hs (by decide) (show decode cX11_whyNot 57 = .ok (.iaload, 1) by decide +kernel) ?_
    rw [hw]
    refine lv_icmp_ge (tgt := 115) X.1 X.2.1 (show decode cX11_whyNot 58 = .ok (.if_icmp .ge 57, 3) by decide +kernel) (by decide) (fun q => ?_) (fun q => ?_)
    · rw [Int32.le_iff_toInt_le, nI_toInt (by omega)] at q
      refine lv_iconst (v := 0) X.1 X.2.1 (show decode cX11_whyNot 115 = .ok (.iconst 0, 1) by decide +kernel) (by decide) ?_
      refine z_iret X hH (hgood (fun i w2 v hi h1 h2 h3 => ?_)) (show decode cX11_whyNot 116 = .ok (.ireturn, 1) by decide +kernel)
      rw [p2] at h1
      have h1 : (if s < 4 then some (Value.int (g2 s)) else none) = some (.int w2) := h1
      rw [if_pos hs, hw] at h1
      cases h1
      rw [p3] at h3
      have h3 : (if 60 * s + 2 * i + 1 < 240 then some (Value.long (g3 (60 * s + 2 * i + 1))) else none) = some v := h3
      rw [if_pos (by omega)] at h3
      cases h3
      exact hP i (by omega)
    rw [Int32.le_iff_toInt_le, nI_toInt (by omega)] at q
    have bad : ∀ (H2 : Heap) (locs2 : List Loc), HX D t lo 17 f2 (px_A lo 17) s0 H2 locs2 → W p l e (px_rm 9) s0 m args below meth c H2 locs2 0 0 (MQ below (QcZ D lo 17 Z) args s0 0 0 (px_A lo 17)) (F0 m 106 ls []) := by
      intro H2 locs2 hH2
      refine lv_bipush (v := -2) X.1 X.2.1 (show decode cX11_whyNot 106 = .ok (.bipush (-2), 2) by decide +kernel) (by decide) ?_
      exact z_iret X hH2 hbad (show decode cX11_whyNot 108 = .ok (.ireturn, 1) by decide +kernel)
    refine lv_aload_n X.1 X.2.1 (show decode cX11_whyNot 61 = .ok (.aload_n 0, 1) by decide +kernel) rfl (lv_at hl 2 rfl) ?_
    refine bx_get fl_X11_ok (i := 16) rfl X hH k0 o3 (show decode cX11_whyNot 62 = .ok (.getfield 16, 3) by decide +kernel) ?_
    refine lv_bipush (v := 60) X.1 X.2.1 (show decode cX11_whyNot 65 = .ok (.bipush 60, 2) by decide +kernel) (by decide) ?_
    refine lv_iload_n X.1 X.2.1 (show decode cX11_whyNot 67 = .ok (.iload_n 1, 1) by decide +kernel) rfl (lv_at hl 3 rfl) ?_
    refine lv_imul X.1 X.2.1 (show decode cX11_whyNot 68 = .ok (.imul, 1) by decide +kernel) ?_
    refine lv_iload_n X.1 X.2.1 (show decode cX11_whyNot 69 = .ok (.iload_n 3, 1) by decide +kernel) rfl (lv_at hl 0 rfl) ?_
    refine lv_iadd X.1 X.2.1 (show decode cX11_whyNot 70 = .ok (.iadd, 1) by decide +kernel) ?_
    rw [show (60 : Int32) = nI 60 from rfl, nI_mul, nI_add]
    refine px_lald X hH (g := g3) (z := 240) ⟨⟨by omega, by omega⟩, p3⟩ (nI_in (show 60 * s + 2 * j < 240 by omega) (by decide)) (show decode cX11_whyNot 71 = .ok (.laload, 1) by decide +kernel) ?_
    rw [nI_clamp (by omega)]
    refine lv_lconst (v := 0) X.1 X.2.1 (show decode cX11_whyNot 72 = .ok (.lconst 0, 1) by decide +kernel) rfl ?_
    refine lv_ldc2 X.1 X.2.1 (own := RX11) X.2.2.2.1 (X.2.2.2.2.1 _ mw_1756) (show decode cX11_whyNot 73 = .ok (.ldc2_w 377, 3) by decide +kernel) ?_
    refine px_callS (k := 0) (idx := 70) (na := 3) (As := [.long (g3 (60 * s + 2 * j)), .long 0, .long 19]) (rest := []) X hH (c_in l D t lo 17 f2 (g3 (60 * s + 2 * j)) 0 19) mw_1416 mw_1417 mw_12 mw_1418 (by decide +kernel) ⟨by decide, by decide⟩ ⟨Nat.le_refl _, Nat.le_refl _⟩ hl.1 rfl rfl (by decide) (show decode cX11_whyNot 76 = .ok (.invokestatic 70, 3) by decide +kernel) (fun H1 locs1 hH _ => ?_)
    refine lv_if_eq (tgt := 106) X.1 X.2.1 (show decode cX11_whyNot 79 = .ok (.ifCond .eq 27, 3) by decide +kernel) (by decide) (fun _ => bad H1 locs1 hH) (fun _ => ?_)
    refine lv_aload_n X.1 X.2.1 (show decode cX11_whyNot 82 = .ok (.aload_n 0, 1) by decide +kernel) rfl (lv_at hl 2 rfl) ?_
    refine bx_get fl_X11_ok (i := 16) rfl X hH k0 o3 (show decode cX11_whyNot 83 = .ok (.getfield 16, 3) by decide +kernel) ?_
    refine lv_bipush (v := 60) X.1 X.2.1 (show decode cX11_whyNot 86 = .ok (.bipush 60, 2) by decide +kernel) (by decide) ?_
    refine lv_iload_n X.1 X.2.1 (show decode cX11_whyNot 88 = .ok (.iload_n 1, 1) by decide +kernel) rfl (lv_at hl 3 rfl) ?_
    refine lv_imul X.1 X.2.1 (show decode cX11_whyNot 89 = .ok (.imul, 1) by decide +kernel) ?_
    refine lv_iload_n X.1 X.2.1 (show decode cX11_whyNot 90 = .ok (.iload_n 3, 1) by decide +kernel) rfl (lv_at hl 0 rfl) ?_
    refine lv_iadd X.1 X.2.1 (show decode cX11_whyNot 91 = .ok (.iadd, 1) by decide +kernel) ?_
    refine lv_iconst (v := 1) X.1 X.2.1 (show decode cX11_whyNot 92 = .ok (.iconst 1, 1) by decide +kernel) (by decide) ?_
    refine lv_iadd X.1 X.2.1 (show decode cX11_whyNot 93 = .ok (.iadd, 1) by decide +kernel) ?_
    rw [show (60 : Int32) = nI 60 from rfl, nI_mul, nI_add, show (1 : Int32) = nI 1 from rfl, nI_add]
    refine px_lald X hH (g := g3) (z := 240) ⟨⟨by omega, by omega⟩, p3⟩ (nI_in (show 60 * s + 2 * j + 1 < 240 by omega) (by decide)) (show decode cX11_whyNot 94 = .ok (.laload, 1) by decide +kernel) ?_
    rw [nI_clamp (by omega)]
    refine lv_lconst (v := 0) X.1 X.2.1 (show decode cX11_whyNot 95 = .ok (.lconst 0, 1) by decide +kernel) rfl ?_
    refine lv_iload_n X.1 X.2.1 (show decode cX11_whyNot 96 = .ok (.iload_n 2, 1) by decide +kernel) rfl (lv_at hl 1 rfl) ?_
    refine lv_i2l (v := n.toInt64) X.1 X.2.1 (show decode cX11_whyNot 97 = .ok (.i2l, 1) by decide +kernel) rfl ?_
    refine lv_lconst (v := 1) X.1 X.2.1 (show decode cX11_whyNot 98 = .ok (.lconst 1, 1) by decide +kernel) rfl ?_
    refine lv_lsub X.1 X.2.1 (show decode cX11_whyNot 99 = .ok (.lsub, 1) by decide +kernel) ?_
    refine px_callS (k := 0) (idx := 70) (na := 3) (As := [.long (g3 (60 * s + 2 * j + 1)), .long 0, .long (n.toInt64 - 1)]) (rest := []) X hH (c_in l D t lo 17 f2 (g3 (60 * s + 2 * j + 1)) 0 (n.toInt64 - 1)) mw_1416 mw_1417 mw_12 mw_1418 (by decide +kernel) ⟨by decide, by decide⟩ ⟨Nat.le_refl _, Nat.le_refl _⟩ hl.1 rfl rfl (by decide) (show decode cX11_whyNot 100 = .ok (.invokestatic 70, 3) by decide +kernel) (fun H2 locs2 hH _ => ?_)
    refine lv_if_ne (tgt := 109) X.1 X.2.1 (show decode cX11_whyNot 103 = .ok (.ifCond .ne 6, 3) by decide +kernel) (by decide) (fun z => ?_) (fun _ => bad H2 locs2 hH)
    have hy : (0 : Int64) ≤ g3 (60 * s + 2 * j + 1) ∧ g3 (60 * s + 2 * j + 1) ≤ n.toInt64 - 1 := by
      by_cases h : (0 : Int64) ≤ g3 (60 * s + 2 * j + 1) ∧ g3 (60 * s + 2 * j + 1) ≤ n.toInt64 - 1
      · exact h
      · rw [if_neg h] at z; exact absurd rfl z
    rw [Int64.le_iff_toInt_le, Int64.le_iff_toInt_le, sub1 hn0 hn1, show (0 : Int64).toInt = 0 from rfl] at hy
    refine lv_iinc (k := 0) X.1 X.2.1 (show decode cX11_whyNot 109 = .ok (.iinc 3 2, 3) by decide +kernel) hl rfl (show nI (2 * j) + Int32.ofInt 2 = nI (2 * (j + 1)) from nI_add (2 * j) 2) (by decide) rfl (fun ls3 hl3 => ?_)
    refine lv_goto (tgt := 51) X.1 X.2.1 (show decode cX11_whyNot 112 = .ok (.goto (-61), 3) by decide +kernel) (by decide) ?_
    refine ih (j + 1) H2 locs2 ls3 (by omega) (by omega) (fun i hi => ?_) hH hl3
    by_cases ci : i = j
    · subst ci; exact ⟨hy.1, by omega⟩
    · exact hP i (by omega)
end
theorem c_whyNot (l : Launch) (D : va_G) (t : Nat → ClassId) (lo : Nat) {f : Nat → va_E} (J : IM t lo f) (k : Int32) : MetZ l Ywhy D t lo 17 f [.ref lo, .int k] (WZ t lo f k) := by
  refine MetZ.beg (by decide +kernel) (Nat.le_of_ble_eq_true rfl) ?_
  intro p e s0 m below meth c X hH ls hl
  have hl : lv_has ls 4 [(0, .ref lo), (1, .int k)] := hl
  obtain ⟨fs1, r0, r49, rrf⟩ := typ_refs J.1
  have k0 : px_at lo 17 f lo (.inr (11, fs1)) := ⟨⟨by omega, by omega⟩, r0⟩
  have K0 : KP lo f f := ⟨fun _ _ => rfl, fun _ _ => rfl, fun _ _ => rfl⟩
  obtain ⟨g6, p6, -⟩ := (cok_arr (by decide)).mp (typ_at J.1 (i := 6) (k := 6) rfl (rfl : Em.1[6]? = some _))
  obtain ⟨g1, p1, -⟩ := (cok_arr (by decide)).mp (typ_at J.1 (i := 1) (k := 1) rfl (rfl : Em.1[1]? = some _))
  obtain ⟨g2, p2, p2b, -⟩ := (cok_arr (by decide)).mp (typ_at J.1 (i := 2) (k := 2) rfl (rfl : Em.1[2]? = some _))
  obtain ⟨g3, p3, -⟩ := typ_at J.1 (i := 3) (k := 3) rfl (rfl : Em.1[3]? = some _)
  have o1 : fs1[1]? = some (.ref (lo + 1)) := rrf 1 1 ⟨_, rfl, rfl⟩ (by decide)
  have o2 : fs1[2]? = some (.ref (lo + 2)) := rrf 2 2 ⟨_, rfl, rfl⟩ (by decide)
  have bad : ∀ (r : Int32) (H2 : Heap) (locs2 : List Loc) (pc : Nat), r ≠ 0 → HX D t lo 17 f (px_A lo 17) s0 H2 locs2 → decode cX11_whyNot pc = .ok (.ireturn, 1) → W p l e (px_rm 9) s0 m [Value.ref lo, .int k].toArray below meth c H2 locs2 0 0 (MQ below (QcZ D lo 17 (WZ t lo f k)) [Value.ref lo, .int k].toArray s0 0 0 (px_A lo 17)) (F0 m pc ls [.int r]) := fun r H2 locs2 pc hr hH2 hd => z_iret X hH2 ⟨r, rfl, J, K0, fun h => absurd h hr⟩ hd
  refine lv_iload_n X.1 X.2.1 (show decode cX11_whyNot 0 = .ok (.iload_n 1, 1) by decide +kernel) rfl (lv_at hl 1 rfl) ?_
  refine px_callS (k := 1) (idx := 74) (na := 1) (As := [.int k]) (rest := []) X hH (c_isSlot l D t lo 17 f k) mw_1412 mw_1413 mw_12 mw_1414 (by decide +kernel) ⟨by decide, by decide⟩ ⟨Nat.le_refl _, Nat.le_refl _⟩ hl.1 rfl rfl (by decide) (show decode cX11_whyNot 1 = .ok (.invokestatic 74, 3) by decide +kernel) (fun H1 locs1 hH _ => ?_)
  have bad2 : ∀ (H2 : Heap) (locs2 : List Loc), HX D t lo 17 f (px_A lo 17) s0 H2 locs2 → W p l e (px_rm 9) s0 m [Value.ref lo, .int k].toArray below meth c H2 locs2 0 0 (MQ below (QcZ D lo 17 (WZ t lo f k)) [Value.ref lo, .int k].toArray s0 0 0 (px_A lo 17)) (F0 m 14 ls []) := by
    intro H2 locs2 hH2
    refine lv_bipush (v := -2) X.1 X.2.1 (show decode cX11_whyNot 14 = .ok (.bipush (-2), 2) by decide +kernel) (by decide) ?_
    exact bad (-2) H2 locs2 16 (by decide) hH2 (show decode cX11_whyNot 16 = .ok (.ireturn, 1) by decide +kernel)
  refine lv_if_eq (tgt := 14) X.1 X.2.1 (show decode cX11_whyNot 4 = .ok (.ifCond .eq 10, 3) by decide +kernel) (by decide) (fun _ => bad2 H1 locs1 hH) (fun z => ?_)
  have hy : (0 : Int64) ≤ k.toInt64 ∧ k.toInt64 ≤ Int64.ofNat 3 := by
    by_cases h : (0 : Int64) ≤ k.toInt64 ∧ k.toInt64 ≤ 3
    · exact h
    · rw [if_neg h] at z; exact absurd rfl z
  obtain ⟨s, hs, rfl⟩ := in_k (by decide) hy
  refine lv_aload_n X.1 X.2.1 (show decode cX11_whyNot 7 = .ok (.aload_n 0, 1) by decide +kernel) rfl (lv_at hl 0 rfl) ?_
  refine px_callV (k := 0) (idx := 336) (na := 0) (b := lo) (As := []) (rest := []) X hH (c_isTown l D t lo 17 f r0 (rrf 16 6 ⟨_, rfl, rfl⟩ (by decide)) p6 (by decide)) k0 (rfl : vwCl[11]? = some _) mw_1582 mw_1584 ms_61 mw_12 mw_1585 (by decide +kernel) ⟨by decide, by decide⟩ ⟨Nat.le_refl _, Nat.le_refl _⟩ hl.1 rfl rfl (by decide) (show decode cX11_whyNot 8 = .ok (.invokevirtual 336, 3) by decide +kernel) (fun H2 locs2 hH _ => ?_)
  refine lv_if_ne (tgt := 17) X.1 X.2.1 (show decode cX11_whyNot 11 = .ok (.ifCond .ne 6, 3) by decide +kernel) (by decide) (fun z2 => ?_) (fun _ => bad2 H2 locs2 hH)
  have ht : 0 < (g6 0).toInt := by
    by_cases h : 0 < (g6 0).toInt
    · exact h
    · rw [if_neg h] at z2; exact absurd rfl z2
  refine lv_aload_n X.1 X.2.1 (show decode cX11_whyNot 17 = .ok (.aload_n 0, 1) by decide +kernel) rfl (lv_at hl 0 rfl) ?_
  refine bx_get fl_X11_ok (i := 7) rfl X hH k0 o1 (show decode cX11_whyNot 18 = .ok (.getfield 7, 3) by decide +kernel) ?_
  refine lv_iload_n X.1 X.2.1 (show decode cX11_whyNot 21 = .ok (.iload_n 1, 1) by decide +kernel) rfl (lv_at hl 1 rfl) ?_
  refine bx_iald X hH ⟨⟨by omega, by omega⟩, p1⟩ (j := s) rfl (by omega) (by decide) (show decode cX11_whyNot 22 = .ok (.iaload, 1) by decide +kernel) ?_
  refine lv_iconst (v := (-1)) X.1 X.2.1 (show decode cX11_whyNot 23 = .ok (.iconst (-1), 1) by decide +kernel) (by decide) ?_
  refine lv_icmp_ne (tgt := 30) X.1 X.2.1 (show decode cX11_whyNot 24 = .ok (.if_icmp .ne 6, 3) by decide +kernel) (by decide) (fun z3 => ?_) (fun z3 => ?_)
  rotate_left
  · refine lv_bipush (v := (-6)) X.1 X.2.1 (show decode cX11_whyNot 27 = .ok (.bipush (-6), 2) by decide +kernel) (by decide) ?_
    exact bad (-6) H2 locs2 29 (by decide) hH (show decode cX11_whyNot 29 = .ok (.ireturn, 1) by decide +kernel)
  refine lv_aload_n X.1 X.2.1 (show decode cX11_whyNot 30 = .ok (.aload_n 0, 1) by decide +kernel) rfl (lv_at hl 0 rfl) ?_
  refine bx_get fl_X11_ok (i := 13) rfl X hH k0 o2 (show decode cX11_whyNot 31 = .ok (.getfield 13, 3) by decide +kernel) ?_
  refine lv_iload_n X.1 X.2.1 (show decode cX11_whyNot 34 = .ok (.iload_n 1, 1) by decide +kernel) rfl (lv_at hl 1 rfl) ?_
  refine bx_iald X hH ⟨⟨by omega, by omega⟩, p2⟩ (j := s) rfl (by omega) (by decide) (show decode cX11_whyNot 35 = .ok (.iaload, 1) by decide +kernel) ?_
  refine lv_iconst (v := 2) X.1 X.2.1 (show decode cX11_whyNot 36 = .ok (.iconst 2, 1) by decide +kernel) (by decide) ?_
  refine lv_irem X.1 X.2.1 (show decode cX11_whyNot 37 = .ok (.irem, 1) by decide +kernel) (by decide) ?_
  refine lv_if_eq (tgt := 44) X.1 X.2.1 (show decode cX11_whyNot 38 = .ok (.ifCond .eq 6, 3) by decide +kernel) (by decide) (fun z4 => ?_) (fun z4 => ?_)
  rotate_left
  · refine lv_bipush (v := (-2)) X.1 X.2.1 (show decode cX11_whyNot 41 = .ok (.bipush (-2), 2) by decide +kernel) (by decide) ?_
    exact bad (-2) H2 locs2 43 (by decide) hH (show decode cX11_whyNot 43 = .ok (.ireturn, 1) by decide +kernel)
  have wb := p2b s (by omega)
  have hev : (g2 s).toInt % 2 = 0 := by
    have e := irem_i (x := g2 s) (y := 2) (by decide)
    rw [z4, show (0 : Int32).toInt = 0 from rfl, show (2 : Int32).toInt = 2 from rfl] at e
    rw [← Int.tmod_eq_emod_of_nonneg wb.1]
    exact e.symm
  refine lv_aload_n X.1 X.2.1 (show decode cX11_whyNot 44 = .ok (.aload_n 0, 1) by decide +kernel) rfl (lv_at hl 0 rfl) ?_
  refine z_callV (Y := Ybn) (n := 17) (idx := 339) (na := 0) (b := lo) (As := []) (rest := []) X hH (c_bellsNow l D t lo J) k0 (rfl : vwCl[11]? = some _) mw_1586 mw_1588 ms_62 mw_12 mw_1589 (by decide +kernel) ⟨by decide, by decide⟩ ⟨Nat.le_refl _, Nat.le_refl _⟩ hl.1 rfl rfl (by decide) (show decode cX11_whyNot 45 = .ok (.invokevirtual 339, 3) by decide +kernel) (fun ov f2 hz H3 locs3 hH3 => ?_)
  obtain ⟨nb, N, rfl, I, nb0, nb1⟩ := hz
  obtain ⟨J2, K2, y27, e6, e1, e2, e3⟩ := IM_LINV J I
  obtain ⟨fs2, r2, -, rrf2⟩ := typ_refs J2.1
  refine lv_istore_n X.1 X.2.1 (show decode cX11_whyNot 48 = .ok (.istore_n 2, 1) by decide +kernel) rfl hl (by decide) rfl (fun ls hl => ?_)
  refine lv_iconst (v := 0) X.1 X.2.1 (show decode cX11_whyNot 49 = .ok (.iconst 0, 1) by decide +kernel) (by decide) ?_
  refine lv_istore_n X.1 X.2.1 (show decode cX11_whyNot 50 = .ok (.istore_n 3, 1) by decide +kernel) rfl hl (by decide) rfl (fun ls hl => ?_)
  have l6 : 1 ≤ cv f2 (lo + 6) 0 := by rw [e6, cv_arr p6 (by decide)]; omega
  exact wn_loop (n := nb) X (by omega) r2 (rrf2 2 2 ⟨_, rfl, rfl⟩ (by decide)) (rrf2 3 3 ⟨_, rfl, rfl⟩ (by decide)) (by rw [e2]; exact p2) (by rw [e3]; exact p3) rfl wb.1 wb.2 hev nb0 nb1 ⟨-2, rfl, J2, K2, fun h => absurd h (by decide)⟩ (fun h => ⟨0, rfl, J2, K2, fun _ => ⟨s, by omega, rfl, l6, y27, h⟩⟩) 31 0 H3 locs3 ls (by omega) (by omega) (fun i hi => absurd hi (by omega)) hH3 hl
