/-! texts: length and charAt, by hand; they are steps of their own -/
theorem sw_14 : Jvm.Cond.initialized "java/lang/String" ∈ Wd := List.mem_filter.mpr ⟨List.mem_of_getElem? (i := 116) (by decide +kernel), by decide +kernel⟩
theorem sw_15 : Jvm.Cond.initialized "java/lang/StringLatin1" ∈ Wd := List.mem_filter.mpr ⟨List.mem_of_getElem? (i := 117) (by decide +kernel), by decide +kernel⟩
theorem sw_16 : Jvm.Cond.initialized "jdk/internal/util/Preconditions" ∈ Wd := List.mem_filter.mpr ⟨List.mem_of_getElem? (i := 118) (by decide +kernel), by decide +kernel⟩
theorem sw_526 : Jvm.Cond.methodLink "java/lang/String" (335 : Nat) ({ cls := "java/lang/String", name := "coder", desc := "()B" } : Jvm.MethodName) ∈ Wd := List.mem_filter.mpr ⟨List.mem_of_getElem? (i := 628) (by decide +kernel), by decide +kernel⟩
theorem sw_527 : Jvm.Cond.instanceMethod ({ cls := "java/lang/String", name := "coder", desc := "()B" } : Jvm.MethodName) ∈ Wd := List.mem_filter.mpr ⟨List.mem_of_getElem? (i := 629) (by decide +kernel), by decide +kernel⟩
theorem sw_528 : Jvm.Cond.selects "java/lang/String" ({ cls := "java/lang/String", name := "coder", desc := "()B" } : Jvm.MethodName) ({ cls := "java/lang/String", name := "coder", desc := "()B" } : Jvm.MethodName) ∈ Wd := List.mem_filter.mpr ⟨List.mem_of_getElem? (i := 630) (by decide +kernel), by decide +kernel⟩
theorem sw_529 : Jvm.Cond.code ({ cls := "java/lang/String", name := "coder", desc := "()B" } : Jvm.MethodName) prog_16_method_152_code (1 : Nat) (Option.some Jvm.ClassFile.FieldType.byte) ∈ Wd := List.mem_filter.mpr ⟨List.mem_of_getElem? (i := 631) (by decide +kernel), by decide +kernel⟩
theorem sw_530 : Jvm.Cond.fieldLink "java/lang/String" (38 : Nat) "java/lang/String" "COMPACT_STRINGS" "Z" ∈ Wd := List.mem_filter.mpr ⟨List.mem_of_getElem? (i := 632) (by decide +kernel), by decide +kernel⟩
theorem sw_536 : Jvm.Cond.methodLink "java/lang/String" (492 : Nat) ({ cls := "java/lang/String", name := "isLatin1", desc := "()Z" } : Jvm.MethodName) ∈ Wd := List.mem_filter.mpr ⟨List.mem_of_getElem? (i := 638) (by decide +kernel), by decide +kernel⟩
theorem sw_537 : Jvm.Cond.instanceMethod ({ cls := "java/lang/String", name := "isLatin1", desc := "()Z" } : Jvm.MethodName) ∈ Wd := List.mem_filter.mpr ⟨List.mem_of_getElem? (i := 639) (by decide +kernel), by decide +kernel⟩
theorem sw_538 : Jvm.Cond.selects "java/lang/String" ({ cls := "java/lang/String", name := "isLatin1", desc := "()Z" } : Jvm.MethodName) ({ cls := "java/lang/String", name := "isLatin1", desc := "()Z" } : Jvm.MethodName) ∈ Wd := List.mem_filter.mpr ⟨List.mem_of_getElem? (i := 640) (by decide +kernel), by decide +kernel⟩
theorem sw_539 : Jvm.Cond.code ({ cls := "java/lang/String", name := "isLatin1", desc := "()Z" } : Jvm.MethodName) prog_16_method_154_code (1 : Nat) (Option.some Jvm.ClassFile.FieldType.boolean) ∈ Wd := List.mem_filter.mpr ⟨List.mem_of_getElem? (i := 641) (by decide +kernel), by decide +kernel⟩
theorem sw_540 : Jvm.Cond.methodLink "java/lang/String" (495 : Nat) ({ cls := "java/lang/StringLatin1", name := "charAt", desc := "([BI)C" } : Jvm.MethodName) ∈ Wd := List.mem_filter.mpr ⟨List.mem_of_getElem? (i := 642) (by decide +kernel), by decide +kernel⟩
theorem sw_541 : Jvm.Cond.static ({ cls := "java/lang/StringLatin1", name := "charAt", desc := "([BI)C" } : Jvm.MethodName) ∈ Wd := List.mem_filter.mpr ⟨List.mem_of_getElem? (i := 643) (by decide +kernel), by decide +kernel⟩
theorem sw_542 : Jvm.Cond.code ({ cls := "java/lang/StringLatin1", name := "charAt", desc := "([BI)C" } : Jvm.MethodName) prog_17_method_2_code (2 : Nat) (Option.some Jvm.ClassFile.FieldType.char) ∈ Wd := List.mem_filter.mpr ⟨List.mem_of_getElem? (i := 644) (by decide +kernel), by decide +kernel⟩
theorem sw_543 : Jvm.Cond.methodLink "java/lang/StringLatin1" (9 : Nat) ({ cls := "java/lang/String", name := "checkIndex", desc := "(II)V" } : Jvm.MethodName) ∈ Wd := List.mem_filter.mpr ⟨List.mem_of_getElem? (i := 645) (by decide +kernel), by decide +kernel⟩
theorem sw_544 : Jvm.Cond.static ({ cls := "java/lang/String", name := "checkIndex", desc := "(II)V" } : Jvm.MethodName) ∈ Wd := List.mem_filter.mpr ⟨List.mem_of_getElem? (i := 646) (by decide +kernel), by decide +kernel⟩
theorem sw_545 : Jvm.Cond.code ({ cls := "java/lang/String", name := "checkIndex", desc := "(II)V" } : Jvm.MethodName) prog_16_method_155_code (2 : Nat) (Option.none : Option Jvm.ClassFile.FieldType) ∈ Wd := List.mem_filter.mpr ⟨List.mem_of_getElem? (i := 647) (by decide +kernel), by decide +kernel⟩
theorem sw_546 : Jvm.Cond.fieldLink "java/lang/String" (1053 : Nat) "jdk/internal/util/Preconditions" "SIOOBE_FORMATTER" "Ljava/util/function/BiFunction;" ∈ Wd := List.mem_filter.mpr ⟨List.mem_of_getElem? (i := 648) (by decide +kernel), by decide +kernel⟩
theorem sw_548 : Jvm.Cond.methodLink "java/lang/String" (1059 : Nat) ({ cls := "jdk/internal/util/Preconditions", name := "checkIndex", desc := "(IILjava/util/function/BiFunction;)I" } : Jvm.MethodName) ∈ Wd := List.mem_filter.mpr ⟨List.mem_of_getElem? (i := 650) (by decide +kernel), by decide +kernel⟩
theorem sw_549 : Jvm.Cond.static ({ cls := "jdk/internal/util/Preconditions", name := "checkIndex", desc := "(IILjava/util/function/BiFunction;)I" } : Jvm.MethodName) ∈ Wd := List.mem_filter.mpr ⟨List.mem_of_getElem? (i := 651) (by decide +kernel), by decide +kernel⟩
theorem sw_550 : Jvm.Cond.code ({ cls := "jdk/internal/util/Preconditions", name := "checkIndex", desc := "(IILjava/util/function/BiFunction;)I" } : Jvm.MethodName) prog_21_method_11_code (3 : Nat) (Option.some Jvm.ClassFile.FieldType.int) ∈ Wd := List.mem_filter.mpr ⟨List.mem_of_getElem? (i := 652) (by decide +kernel), by decide +kernel⟩
theorem sw_2002 : Jvm.Cond.fieldLink "java/lang/String" (9 : Nat) "java/lang/String" "value" "[B" ∈ Wd := List.mem_filter.mpr ⟨List.mem_of_getElem? (i := 2104) (by decide +kernel), by decide +kernel⟩
theorem sw_2003 : Jvm.Cond.fieldLink "java/lang/String" (15 : Nat) "java/lang/String" "coder" "B" ∈ Wd := List.mem_filter.mpr ⟨List.mem_of_getElem? (i := 2105) (by decide +kernel), by decide +kernel⟩
section PXS
variable {p : Program} {l : Launch} {e : Env} {R : Room} {s : State} {m : MethodId} {args : Array Value} {below : List Frame} {meth : Method} {c : Code} {H : Heap} {locs : List Loc} {cells slots : Nat} {Q : State → Prop}
variable {cc : ByteArray} {own : String} {nl : Nat} {ret : Option FieldType} {pc : Nat} {ls : Array Slot} {rest : List Value} {D : va_G} {t : Nat → ClassId} {lo n : Nat} {f : Nat → va_E} {A : Nat → Prop} {a : Nat}
theorem px_nret {ty : FieldType} (X : CX p s m args meth c own cc nl (some ty)) (h : HX D t lo n f (px_A lo n) s H locs) {v r : Int32} (hv : v = r) (hn : narrow ty (.int v) = .int v) (hdg : decode cc pc = .ok (.ireturn, 1)) : W p l e R s m args below meth c H locs cells slots (MQ below (QcM D lo n f (some (.int r))) args s cells slots (px_A lo n)) (F0 m pc ls [.int v]) := by
  subst hv
  exact W.zret X.1 X.2.1 X.2.2.2.2.2.2 hn (fun tt ht hW => ⟨rfl, by rw [ht]; exact h.2.1, h.2.2.2.F ht⟩) h.2.2.2.2.2 hdg X.2.2.2.2.2.1
/-- a call of an object outside the pool -/
theorem px_callX (X : CX p s m args meth c own cc nl ret) (h : HX D t lo n f A s H locs) {y : MethodName} {cy : ByteArray} {ny k idx na : Nat} {ry : Option FieldType} {f2 : Nat → va_E} {b : Nat} {As : List Value} {ov : Option Value} {C : String} {st0 : List Value}
    (hM : MetM l y cy ny ry k D t lo n f (.ref b :: As) f2 ov) (hb : ∃ cell : Cell, H[b]? = some cell ∧ cell.vm.isStatics = false ∧ s.vm.findClass C = some cell.cls)
    (h1 : Cond.methodLink own idx y ∈ Wd) (h2 : Cond.instanceMethod y ∈ Wd) (h3 : Cond.selects C y y ∈ Wd) (h4 : Cond.initialized C ∈ Wd) (h5 : Cond.code y cy ny ry ∈ Wd)
    (hd : y.cls = C ∧ y.cls ≠ "java/lang/invoke/MethodHandle" ∧ y.cls ≠ "java/lang/invoke/VarHandle" ∧ (parseMethodDescriptor y.desc).map (fun d => d.parameters.length) = some na) (hR : k + 1 ≤ R.frames ∧ 8 + (ny + 11) + 60 * k ≤ R.locals) (hRc : cells ≤ R.cells ∧ slots ≤ R.slots)
    (hls : ls.size = nl) (hn : As.length = na) (hst : st0 = As.reverse ++ .ref b :: rest) (hrm : (rest.map fun v => v.category).sum ≤ 8) (hdg : decode cc pc = .ok (.invokevirtual idx, 3))
    (kk : ∀ (H1 : Heap) (locs1 : List Loc), HX D t lo n f2 A s H1 locs1 → (∀ q : Nat, q < H.size → ¬ px_A lo n q → H1[q]? = H[q]?) → W p l e R s m args below meth c H1 locs1 cells slots Q (F0 m (pc + 3) ls (ov.toList ++ rest))) : W p l e R s m args below meth c H locs cells slots Q (F0 m pc ls st0) := by
  have hG : GoodIn Wd (wsV own idx C y (px_ws y cy ny ry)) := by
    intro w hw
    unfold wsV at hw
    rcases List.mem_append.mp hw with q | q
    · simp only [List.mem_cons, List.not_mem_nil, or_false] at q
      rcases q with rfl | rfl | rfl | rfl
      · exact Wd_good _ h1
      · exact Wd_good _ h2
      · exact Wd_good _ h3
      · exact Wd_good _ h4
    · exact wd_all h5 w q
  refine px_back h (rest := rest) (va_runV (As := As) (rest := rest) ⟨X.1, X.2.1, X.2.2.1, X.2.2.2.1, X.2.2.2.2.1⟩ hM (cwV na X.2.2.2.2.1 hG rfl rfl rfl hd hR) ⟨PcM.blind, hb, fun U hU hW => ⟨rfl, va_K.moved hW.alike h.1, by rw [hU]; exact h.2.1, SX.into h.2.2.1.2 h.2.2.2 hU hW (fun q z => h.2.2.1.1 q z.1 z.2)⟩⟩ rfl hn hls hst (lv_room hrm) hdg hRc) kk
end PXS
section STR
variable (l : Launch) (D : va_G) (t : Nat → ClassId) (lo n : Nat) (f : Nat → va_E)
def chS (i k : Nat) : Int32 := (strB.getD i []).getD k 0
theorem chS_ok : ∀ i, i < 19 → ∀ k, k < strL.getD i 0 → ((chS i k &&& 255).toUInt32 % 65536).toInt32 = chS i k ∧ 0 ≤ (chS i k).toInt ∧ (chS i k).toInt ≤ 255 := by decide +kernel
theorem strL_ok : ∀ i, i < 19 → strL.getD i 0 < 30 := by decide +kernel
theorem nar_ch {v : Int32} (h0 : 0 ≤ v.toInt) (h1 : v.toInt ≤ 255) : narrow .char (.int v) = .int v := by
  have key : ∀ k : Fin 256, narrow .char (.int (Int32.ofNat (k : Nat))) = .int (Int32.ofNat (k : Nat)) := by decide +kernel
  have e : v = Int32.ofNat v.toInt.toNat := by
    apply Int32.toInt_inj.mp
    rw [Int32.toInt_ofNat_of_lt (by omega)]
    omega
  rw [e]
  exact key ⟨v.toInt.toNat, by omega⟩
theorem c_coder {i : Nat} (hi : i < 19) : MetM l yJ0_coder_7d493 cJ0_coder_7d493 1 (some .byte) 0 D t lo n f [.ref (t (100 + i))] f (some (.int 0)) := by
  refine MetM.start (by decide +kernel) (Nat.le_of_ble_eq_true rfl) ?_
  intro p e s m below meth c X hH ls hl
  have hl : lv_has ls 1 [(0, .ref (t (100 + i)))] := hl
  obtain ⟨hK, hR, hZ, hZq⟩ := SX_eq.mp hH.2.2.1.2
  refine va_gets X.1 X.2.1 hZ hH.2.2.2 X.2.2.2.1 (X.2.2.2.2.1 _ sw_530) (fun x hx => hx) (show decode cJ0_coder_7d493 0 = .ok (.getstatic 38, 3) by decide +kernel) ?_
  refine lv_if_eq (tgt := 13) X.1 X.2.1 (show decode cJ0_coder_7d493 3 = .ok (.ifCond .eq 10, 3) by decide +kernel) (by decide) (fun q => absurd q (by decide)) (fun q => ?_)
  refine lv_aload_n X.1 X.2.1 (show decode cJ0_coder_7d493 6 = .ok (.aload_n 0, 1) by decide +kernel) rfl (lv_at hl 0 rfl) ?_
  refine vk_getf X.1 X.2.1 (hK.1 i hi).2.1 hH.2.2.2 X.2.2.2.1 (X.2.2.2.2.1 _ sw_2003) (fun x hx => hx) (show decode cJ0_coder_7d493 7 = .ok (.getfield 15, 3) by decide +kernel) ?_
  refine lv_goto (tgt := 14) X.1 X.2.1 (show decode cJ0_coder_7d493 10 = .ok (.goto 4, 3) by decide +kernel) (by decide) ?_
  exact px_nret X hH rfl rfl (show decode cJ0_coder_7d493 14 = .ok (.ireturn, 1) by decide +kernel)
theorem c_isLatin1 {i : Nat} (hi : i < 19) : MetM l yJ0_isLatin1_aae02 cJ0_isLatin1_aae02 1 (some .boolean) 0 D t lo n f [.ref (t (100 + i))] f (some (.int 1)) := by
  refine MetM.start (by decide +kernel) (Nat.le_of_ble_eq_true rfl) ?_
  intro p e s m below meth c X hH ls hl
  have hl : lv_has ls 1 [(0, .ref (t (100 + i)))] := hl
  obtain ⟨hK, hR, hZ, hZq⟩ := SX_eq.mp hH.2.2.1.2
  refine va_gets X.1 X.2.1 hZ hH.2.2.2 X.2.2.2.1 (X.2.2.2.2.1 _ sw_530) (fun x hx => hx) (show decode cJ0_isLatin1_aae02 0 = .ok (.getstatic 38, 3) by decide +kernel) ?_
  refine lv_if_eq (tgt := 17) X.1 X.2.1 (show decode cJ0_isLatin1_aae02 3 = .ok (.ifCond .eq 14, 3) by decide +kernel) (by decide) (fun q => absurd q (by decide)) (fun q => ?_)
  refine lv_aload_n X.1 X.2.1 (show decode cJ0_isLatin1_aae02 6 = .ok (.aload_n 0, 1) by decide +kernel) rfl (lv_at hl 0 rfl) ?_
  refine vk_getf X.1 X.2.1 (hK.1 i hi).2.1 hH.2.2.2 X.2.2.2.1 (X.2.2.2.2.1 _ sw_2003) (fun x hx => hx) (show decode cJ0_isLatin1_aae02 7 = .ok (.getfield 15, 3) by decide +kernel) ?_
  refine lv_if_ne (tgt := 17) X.1 X.2.1 (show decode cJ0_isLatin1_aae02 10 = .ok (.ifCond .ne 7, 3) by decide +kernel) (by decide) (fun q => absurd rfl q) (fun q => ?_)
  refine lv_iconst (v := 1) X.1 X.2.1 (show decode cJ0_isLatin1_aae02 13 = .ok (.iconst 1, 1) by decide +kernel) (by decide) ?_
  refine lv_goto (tgt := 18) X.1 X.2.1 (show decode cJ0_isLatin1_aae02 14 = .ok (.goto 4, 3) by decide +kernel) (by decide) ?_
  exact px_nret X hH rfl rfl (show decode cJ0_isLatin1_aae02 18 = .ok (.ireturn, 1) by decide +kernel)
theorem c_length {i : Nat} (hi : i < 19) : MetM l yJ0_length_8abf5 cJ0_length_8abf5 1 (some .int) 1 D t lo n f [.ref (t (100 + i))] f (some (.int (Int32.ofNat (strL.getD i 0)))) := by
  refine MetM.start (by decide +kernel) (Nat.le_of_ble_eq_true rfl) ?_
  intro p e s m below meth c X hH ls hl
  have hl : lv_has ls 1 [(0, .ref (t (100 + i)))] := hl
  obtain ⟨hK, hR, hZ, hZq⟩ := SX_eq.mp hH.2.2.1.2
  refine lv_aload_n X.1 X.2.1 (show decode cJ0_length_8abf5 0 = .ok (.aload_n 0, 1) by decide +kernel) rfl (lv_at hl 0 rfl) ?_
  refine vk_getf X.1 X.2.1 (hK.1 i hi).2.2.1 hH.2.2.2 X.2.2.2.1 (X.2.2.2.2.1 _ sw_2002) (fun x hx => hx) (show decode cJ0_length_8abf5 1 = .ok (.getfield 9, 3) by decide +kernel) ?_
  refine va_tlen X.1 X.2.1 (hK.1 i hi).2.2.2 hH.2.2.2 rfl (show decode cJ0_length_8abf5 4 = .ok (.arraylength, 1) by decide +kernel) ?_
  refine lv_aload_n X.1 X.2.1 (show decode cJ0_length_8abf5 5 = .ok (.aload_n 0, 1) by decide +kernel) rfl (lv_at hl 0 rfl) ?_
  refine px_callX (As := []) (rest := [.int (Int32.ofNat (strL.getD i 0))]) (na := 0) X hH (c_coder l D t lo n f hi) (vk_recv (adK := fun i => t (100 + i)) hK hi hH.2.2.2) sw_526 sw_527 sw_528 sw_14 sw_529 ⟨rfl, by decide +kernel⟩ ⟨Nat.le_of_ble_eq_true rfl, Nat.le_of_ble_eq_true rfl⟩ ⟨Nat.le_refl _, Nat.le_refl _⟩ hl.1 rfl rfl (Nat.le_of_ble_eq_true rfl) (show decode cJ0_length_8abf5 6 = .ok (.invokevirtual 335, 3) by decide +kernel) (fun H1 locs1 hH1 _ => ?_)
  refine lv_ishr X.1 X.2.1 (show decode cJ0_length_8abf5 9 = .ok (.ishr, 1) by decide +kernel) ?_
  refine px_iret X hH1 ?_ (show decode cJ0_length_8abf5 10 = .ok (.ireturn, 1) by decide +kernel)
  exact (show ∀ i, i < 19 → Int32.ofNat (strL.getD i 0) >>> ((0 : Int32) &&& 31) = Int32.ofNat (strL.getD i 0) by decide +kernel) i hi
theorem c_chk3 {v0 : Value} (hv0 : v0 = .null ∨ ∃ a, v0 = .ref a) {k z : Int32} (h0 : ¬ k < 0) (h1 : k < z) : MetM l yJ3_checkIndex_8e157 cJ3_checkIndex_8e157 3 (some .int) 0 D t lo n f [.int k, .int z, v0] f (some (.int k)) := by
  have hc : (lg_sl [.int k, .int z, v0]).length ≤ 3 := by
    rcases hv0 with rfl | ⟨a, rfl⟩
    · exact Nat.le_of_ble_eq_true rfl
    · exact Nat.le_of_ble_eq_true rfl
  refine MetM.start (by decide +kernel) hc ?_
  intro p e s m below meth c X hH ls hl
  have hl : lv_has ls 3 [(0, .int k), (1, .int z), (2, v0)] := hl
  refine lv_iload_n X.1 X.2.1 (show decode cJ3_checkIndex_8e157 0 = .ok (.iload_n 0, 1) by decide +kernel) rfl (lv_at hl 0 rfl) ?_
  refine lv_if_lt (tgt := 9) X.1 X.2.1 (show decode cJ3_checkIndex_8e157 1 = .ok (.ifCond .lt 8, 3) by decide +kernel) (by decide) (fun q => absurd q h0) (fun q => ?_)
  refine lv_iload_n X.1 X.2.1 (show decode cJ3_checkIndex_8e157 4 = .ok (.iload_n 0, 1) by decide +kernel) rfl (lv_at hl 0 rfl) ?_
  refine lv_iload_n X.1 X.2.1 (show decode cJ3_checkIndex_8e157 5 = .ok (.iload_n 1, 1) by decide +kernel) rfl (lv_at hl 1 rfl) ?_
  refine lv_icmp_lt (tgt := 16) X.1 X.2.1 (show decode cJ3_checkIndex_8e157 6 = .ok (.if_icmp .lt 10, 3) by decide +kernel) (by decide) (fun q => ?_) (fun q => absurd h1 q)
  refine lv_iload_n X.1 X.2.1 (show decode cJ3_checkIndex_8e157 16 = .ok (.iload_n 0, 1) by decide +kernel) rfl (lv_at hl 0 rfl) ?_
  exact px_iret X hH rfl (show decode cJ3_checkIndex_8e157 17 = .ok (.ireturn, 1) by decide +kernel)
theorem c_chk0 {k z : Int32} (h0 : ¬ k < 0) (h1 : k < z) : MetM l yJ0_checkIndex_df160 cJ0_checkIndex_df160 2 none 1 D t lo n f [.int k, .int z] f none := by
  refine MetM.start (by decide +kernel) (Nat.le_of_ble_eq_true rfl) ?_
  intro p e s m below meth c X hH ls hl
  have hl : lv_has ls 2 [(0, .int k), (1, .int z)] := hl
  obtain ⟨hK, hR, hZ, hZq⟩ := SX_eq.mp hH.2.2.1.2
  refine lv_iload_n X.1 X.2.1 (show decode cJ0_checkIndex_df160 0 = .ok (.iload_n 0, 1) by decide +kernel) rfl (lv_at hl 0 rfl) ?_
  refine lv_iload_n X.1 X.2.1 (show decode cJ0_checkIndex_df160 1 = .ok (.iload_n 1, 1) by decide +kernel) rfl (lv_at hl 1 rfl) ?_
  have go : ∀ v0 : Value, (v0 = .null ∨ ∃ a, v0 = .ref a) → W p l e (px_rm 1) s m [Value.int k, Value.int z].toArray below meth c s.heap [] 0 0 (MQ below (QcM D lo n f none) [Value.int k, Value.int z].toArray s 0 0 (px_A lo n)) (F0 m 5 ls [v0, .int z, .int k]) := by
    intro v0 hv0
    refine px_callS (As := [.int k, .int z, v0]) (rest := []) (na := 3) X hH (c_chk3 l D t lo n f hv0 h0 h1) sw_548 sw_549 sw_16 sw_550 (by decide +kernel) ⟨Nat.le_of_ble_eq_true rfl, Nat.le_of_ble_eq_true rfl⟩ ⟨Nat.le_refl _, Nat.le_refl _⟩ hl.1 rfl rfl (Nat.le_of_ble_eq_true rfl) (show decode cJ0_checkIndex_df160 5 = .ok (.invokestatic 1059, 3) by decide +kernel) (fun H1 locs1 hH1 _ => ?_)
    refine lv_pop X.1 X.2.1 (show decode cJ0_checkIndex_df160 8 = .ok (.pop, 1) by decide +kernel) rfl ?_
    exact px_vret X hH1 (show decode cJ0_checkIndex_df160 9 = .ok (.return_, 1) by decide +kernel)
  rcases hZq with hZq | ⟨a, hZq⟩
  · refine va_gets X.1 X.2.1 hZq hH.2.2.2 X.2.2.2.1 (X.2.2.2.2.1 _ sw_546) (fun x hx => hx) (show decode cJ0_checkIndex_df160 2 = .ok (.getstatic 1053, 3) by decide +kernel) ?_
    exact go _ (Or.inl rfl)
  · refine va_gets X.1 X.2.1 hZq hH.2.2.2 X.2.2.2.1 (X.2.2.2.2.1 _ sw_546) (fun x hx => hx) (show decode cJ0_checkIndex_df160 2 = .ok (.getstatic 1053, 3) by decide +kernel) ?_
    exact go _ (Or.inr ⟨a, rfl⟩)
theorem c_charL {i : Nat} (hi : i < 19) {k : Int32} (h0 : 0 ≤ k.toInt) (h1 : k.toInt < (strL.getD i 0 : Nat)) : MetM l yJ1_charAt_3b067 cJ1_charAt_3b067 2 (some .char) 2 D t lo n f [.ref (t (200 + i)), .int k] f (some (.int (chS i k.toInt.toNat))) := by
  refine MetM.start (by decide +kernel) (Nat.le_of_ble_eq_true rfl) ?_
  intro p e s m below meth c X hH ls hl
  have hl : lv_has ls 2 [(0, .ref (t (200 + i))), (1, .int k)] := hl
  obtain ⟨hK, hR, hZ, hZq⟩ := SX_eq.mp hH.2.2.1.2
  have hlen := strL_ok i hi
  have k0 : ¬ k < 0 := fun q => by have := Int32.lt_iff_toInt_lt.mp q; have z : (0 : Int32).toInt = 0 := rfl; omega
  have k1 : k < Int32.ofNat (strL.getD i 0) := Int32.lt_iff_toInt_lt.mpr (by rw [Int32.toInt_ofNat_of_lt (by omega)]; exact h1)
  have kn : k.toNatClampNeg = k.toInt.toNat := rfl
  obtain ⟨e1, e2, e3⟩ := chS_ok i hi k.toInt.toNat (by omega)
  refine lv_iload_n X.1 X.2.1 (show decode cJ1_charAt_3b067 0 = .ok (.iload_n 1, 1) by decide +kernel) rfl (lv_at hl 1 rfl) ?_
  refine lv_aload_n X.1 X.2.1 (show decode cJ1_charAt_3b067 1 = .ok (.aload_n 0, 1) by decide +kernel) rfl (lv_at hl 0 rfl) ?_
  refine va_tlen X.1 X.2.1 (hK.1 i hi).2.2.2 hH.2.2.2 rfl (show decode cJ1_charAt_3b067 2 = .ok (.arraylength, 1) by decide +kernel) ?_
  refine px_callS (As := [.int k, .int (Int32.ofNat (strL.getD i 0))]) (rest := []) (na := 2) X hH (c_chk0 l D t lo n f k0 k1) sw_543 sw_544 sw_14 sw_545 (by decide +kernel) ⟨Nat.le_of_ble_eq_true rfl, Nat.le_of_ble_eq_true rfl⟩ ⟨Nat.le_refl _, Nat.le_refl _⟩ hl.1 rfl rfl (Nat.le_of_ble_eq_true rfl) (show decode cJ1_charAt_3b067 3 = .ok (.invokestatic 9, 3) by decide +kernel) (fun H1 locs1 hH1 _ => ?_)
  refine lv_aload_n X.1 X.2.1 (show decode cJ1_charAt_3b067 6 = .ok (.aload_n 0, 1) by decide +kernel) rfl (lv_at hl 0 rfl) ?_
  refine lv_iload_n X.1 X.2.1 (show decode cJ1_charAt_3b067 7 = .ok (.iload_n 1, 1) by decide +kernel) rfl (lv_at hl 1 rfl) ?_
  refine va_tb X.1 X.2.1 (hK.1 i hi).2.2.2 hH1.2.2.2 (i := k) (vp_in_iff.mpr ⟨h0, h1⟩) (v := .int (chS i k.toInt.toNat)) rfl (show decode cJ1_charAt_3b067 8 = .ok (.baload, 1) by decide +kernel) ?_
  refine lv_sipush (v := 255) X.1 X.2.1 (show decode cJ1_charAt_3b067 9 = .ok (.sipush 255, 3) by decide +kernel) (by decide) ?_
  refine lv_iand X.1 X.2.1 (show decode cJ1_charAt_3b067 12 = .ok (.iand, 1) by decide +kernel) ?_
  refine lv_i2c (v := chS i k.toInt.toNat) X.1 X.2.1 (show decode cJ1_charAt_3b067 13 = .ok (.i2c, 1) by decide +kernel) e1 ?_
  exact px_nret X hH1 rfl (nar_ch e2 e3) (show decode cJ1_charAt_3b067 14 = .ok (.ireturn, 1) by decide +kernel)
theorem c_charAt {i : Nat} (hi : i < 19) {k : Int32} (h0 : 0 ≤ k.toInt) (h1 : k.toInt < (strL.getD i 0 : Nat)) : MetM l yJ0_charAt_5068e cJ0_charAt_5068e 2 (some .char) 3 D t lo n f [.ref (t (100 + i)), .int k] f (some (.int (chS i k.toInt.toNat))) := by
  refine MetM.start (by decide +kernel) (Nat.le_of_ble_eq_true rfl) ?_
  intro p e s m below meth c X hH ls hl
  have hl : lv_has ls 2 [(0, .ref (t (100 + i))), (1, .int k)] := hl
  obtain ⟨hK, hR, hZ, hZq⟩ := SX_eq.mp hH.2.2.1.2
  obtain ⟨e1, e2, e3⟩ := chS_ok i hi k.toInt.toNat (by omega)
  refine lv_aload_n X.1 X.2.1 (show decode cJ0_charAt_5068e 0 = .ok (.aload_n 0, 1) by decide +kernel) rfl (lv_at hl 0 rfl) ?_
  refine px_callX (As := []) (rest := []) (na := 0) X hH (c_isLatin1 l D t lo n f hi) (vk_recv (adK := fun i => t (100 + i)) hK hi hH.2.2.2) sw_536 sw_537 sw_538 sw_14 sw_539 ⟨rfl, by decide +kernel⟩ ⟨Nat.le_of_ble_eq_true rfl, Nat.le_of_ble_eq_true rfl⟩ ⟨Nat.le_refl _, Nat.le_refl _⟩ hl.1 rfl rfl (Nat.le_of_ble_eq_true rfl) (show decode cJ0_charAt_5068e 1 = .ok (.invokevirtual 492, 3) by decide +kernel) (fun H1 locs1 hH1 _ => ?_)
  refine lv_if_eq (tgt := 16) X.1 X.2.1 (show decode cJ0_charAt_5068e 4 = .ok (.ifCond .eq 12, 3) by decide +kernel) (by decide) (fun q => absurd q (by decide)) (fun q => ?_)
  refine lv_aload_n X.1 X.2.1 (show decode cJ0_charAt_5068e 7 = .ok (.aload_n 0, 1) by decide +kernel) rfl (lv_at hl 0 rfl) ?_
  refine vk_getf X.1 X.2.1 (hK.1 i hi).2.2.1 hH1.2.2.2 X.2.2.2.1 (X.2.2.2.2.1 _ sw_2002) (fun x hx => hx) (show decode cJ0_charAt_5068e 8 = .ok (.getfield 9, 3) by decide +kernel) ?_
  refine lv_iload_n X.1 X.2.1 (show decode cJ0_charAt_5068e 11 = .ok (.iload_n 1, 1) by decide +kernel) rfl (lv_at hl 1 rfl) ?_
  refine px_callS (As := [.ref (t (200 + i)), .int k]) (rest := []) (na := 2) X hH1 (c_charL l D t lo n f hi h0 h1) sw_540 sw_541 sw_15 sw_542 (by decide +kernel) ⟨Nat.le_of_ble_eq_true rfl, Nat.le_of_ble_eq_true rfl⟩ ⟨Nat.le_refl _, Nat.le_refl _⟩ hl.1 rfl rfl (Nat.le_of_ble_eq_true rfl) (show decode cJ0_charAt_5068e 12 = .ok (.invokestatic 495, 3) by decide +kernel) (fun H2 locs2 hH2 _ => ?_)
  exact px_nret X hH2 rfl (nar_ch e2 e3) (show decode cJ0_charAt_5068e 15 = .ok (.ireturn, 1) by decide +kernel)
end STR
/-! texts as steps: kinds from 2000 on -/
def STok (E : XE) (xt : XX) (t : Nat → ClassId) : Prop := E.1.length ≤ 2000 ∧ ∀ n : Nat, n < 19 → ∀ a : Nat, xt.1 (2000 + n) a ↔ a = t (100 + n)
def stepH (kc : Nat) (ml : XL) (ins : Instr) (x : XC) : Option (List XC) := match ins with
  | .ldc i => match x with
    | (pc, gi, L, S, V) => match xml ml i with
      | some (_, 5, n, _) => some [(pc + 2, gi, L, .inr (.inl (2000 + n)) :: S, V)]
      | _ => none
  | .invokevirtual i => match x with
    | (pc, gi, L, .inr (.inl k) :: S, V) => match xml ml i with
      | some (_, 3, _, _) => if 2000 ≤ k ∧ k < 2019 ∧ 2 ≤ kc ∧ (S.map xcat).sum ≤ 8 then some [(pc + 3, gi, L, .inl (.inl (none, ((strL.getD (k - 2000) 0 : Nat) : Int))) :: S, V)] else none
      | _ => none
    | (pc, gi, L, .inl (.inl n) :: .inr (.inl k) :: S, V) => match xml ml i with
      | some (_, 4, _, _) => if 2000 ≤ k ∧ k < 2019 ∧ 4 ≤ kc ∧ (S.map xcat).sum ≤ 8 ∧ xat gi n (strL.getD (k - 2000) 0) = true then some [(pc + 3, (xmk gi 0 255 none).1, L, .inl (.inl (xmk gi 0 255 none).2) :: S, V)] else none
      | _ => none
    | _ => none
  | .invokestatic i => match x with
    | (pc, gi, L, .inl (.inl b) :: .inl (.inl a) :: S, V) => match xml ml i with
      | some (_, 6, _, _) => if 1 ≤ kc ∧ (S.map xcat).sum ≤ 8 then some ((xlt gi a b).toList.map (fun g => (pc + 3, g, L, .inl (.inl b) :: S, V)) ++ (xle gi b a).toList.map (fun g => (pc + 3, g, L, .inl (.inl a) :: S, V))) else none
      | some (_, 7, _, _) => if 1 ≤ kc ∧ (S.map xcat).sum ≤ 8 then some ((xlt gi b a).toList.map (fun g => (pc + 3, g, L, .inl (.inl b) :: S, V)) ++ (xle gi a b).toList.map (fun g => (pc + 3, g, L, .inl (.inl a) :: S, V))) else none
      | _ => none
    | _ => none
  | _ => none
section XHH
variable {E : XE} {xt : XX} {D : va_G} {t : Nat → ClassId} {lo : Nat} {G0 : List Int} {f0 : Nat → va_E} {A : Nat → Prop}
variable {p : Program} {l : Launch} {e : Env} {R : Room} {s : State} {m : MethodId} {args : Array Value} {below : List Frame} {meth : Method} {c : Code} {H : Heap} {locs : List Loc} {cells slots : Nat} {Q : State → Prop}
variable {cc : ByteArray} {own : String} {nl : Nat} {ret : Option FieldType} {ls : Array Slot} {st : List Value} {x : XC} {xs : List XC} {ins : Instr} {pc : Nat}
theorem xB_str (hst : STok E xt t) {n a : Nat} (hn : n < 19) : xB E lo xt (2000 + n) a ↔ a = t (100 + n) := by
  unfold xB
  rw [List.getElem?_eq_none (by have := hst.1; omega)]
  exact hst.2 n hn a
theorem stepH_ok {kc : Nat} {ml : XL} {ys : List XY} (X : CX p s m args meth c own cc nl ret) (hst : STok E xt t) (hml : MLok own ys ml) (hRk : kc ≤ R.frames ∧ 60 * kc ≤ R.locals) (hRc : cells ≤ R.cells ∧ slots ≤ R.slots) (hd : decode cc x.1 = .ok (ins, xlen ins)) (h : stepH kc ml ins x = some xs) (hs : SAT E xt D t lo G0 f0 A s nl x H locs ls st)
    (kk : ∀ y ∈ xs, GO E xt D t lo G0 f0 A nl p l e R s m args below meth c cells slots Q y) : W p l e R s m args below meth c H locs cells slots Q (F0 m x.1 ls st) := by
  unfold stepH at h
  split at h
  · rename_i i
    obtain ⟨pc, gi, L, S, V⟩ := x
    simp only at h
    split at h
    · rename_i no n ci hx
      simp only [Option.some.injEq] at h
      subst h
      obtain ⟨Y, hY, m5, -⟩ := hml i no 5 n ci hx
      obtain ⟨rfl, hn, hi⟩ := m5 rfl
      obtain ⟨Gs, f, lv, hr0, hg, hl, hL, hS, hV, hT, hZ, hH⟩ := hs
      have hR := (SX_eq.mp hH.2.2.1.2).2.1 n hn
      rw [hi] at hR
      exact va_ldcS X.1 X.2.1 X.2.2.2.1 hR hd (kk _ List.mem_cons_self _ _ _ _ ⟨Gs, f, lv, hr0, hg, hl, hL, ⟨⟨_, rfl, (xB_str hst hn).mpr rfl⟩, hS⟩, hV, hT, hZ, hH⟩)
    · cases h
  · rename_i i
    split at h
    · rename_i pc gi L k S V
      split at h
      · rename_i no na ci hx
        split at h
        · rename_i c1
          obtain ⟨c1, c2, c3, c4⟩ := c1
          simp only [Option.some.injEq] at h
          subst h
          obtain ⟨Y, hY, -, -, -, mm⟩ := hml i no 3 na ci hx
          obtain ⟨m1, m2, m3, m4, m5, m6⟩ := mm (by decide)
          rw [if_neg (by decide), if_neg (by decide), if_pos rfl] at m6
          obtain ⟨m6, m7, rfl, y1, y2, y3, y4⟩ := m6
          rw [y1, y2, y3, y4] at m2
          rw [y1] at m1 m3 m4 m6 m7
          obtain ⟨n, rfl⟩ : ∃ n, k = 2000 + n := ⟨k - 2000, by omega⟩
          have hn : n < 19 := by omega
          rw [show 2000 + n - 2000 = n by omega] at kk
          obtain ⟨Gs, f, lv, hr0, hg, hl, hL, hS, hV, hT, hZ, hH⟩ := hs
          obtain ⟨v1, st1, rfl, ⟨a, rfl, hB⟩, hS1⟩ := SR_cons hS
          have ea := (xB_str hst hn).mp hB
          subst ea
          have hcat : (st1.map fun v => v.category).sum ≤ 8 := by rw [SR_cat hS1]; exact c4
          have hlen := strL_ok n hn
          refine px_callX (As := []) (rest := st1) (na := 0) X hH (c_length l D t lo E.2.1.length f hn) (vk_recv (adK := fun i => t (100 + i)) (SX_eq.mp hH.2.2.1.2).1 hn hH.2.2.2) m1 m6 m7 m3 m2 ⟨rfl, m4⟩ (by omega) hRc hl.1 rfl rfl hcat hd (fun H1 locs1 hH1 _ => ?_)
          refine kk _ List.mem_cons_self _ _ _ _ ⟨Gs, f, lv, hr0, hg, hl, hL, ⟨⟨_, rfl, ?_⟩, hS1⟩, hV, hT, hZ, hH1⟩
          simp only [xval]
          rw [Int32.toInt_ofNat_of_lt (by omega)]
        · cases h
      · cases h
    · rename_i pc gi L n k S V
      split at h
      · rename_i no na ci hx
        split at h
        · rename_i c1
          obtain ⟨c1, c2, c3, c4, c5⟩ := c1
          simp only [Option.some.injEq] at h
          subst h
          obtain ⟨Y, hY, -, -, -, mm⟩ := hml i no 4 na ci hx
          obtain ⟨m1, m2, m3, m4, m5, m6⟩ := mm (by decide)
          rw [if_neg (by decide), if_neg (by decide), if_neg (by decide), if_pos rfl] at m6
          obtain ⟨m6, m7, rfl, y1, y2, y3, y4⟩ := m6
          rw [y1, y2, y3, y4] at m2
          rw [y1] at m1 m3 m4 m6 m7
          obtain ⟨q, rfl⟩ : ∃ q, k = 2000 + q := ⟨k - 2000, by omega⟩
          have hn : q < 19 := by omega
          rw [show 2000 + q - 2000 = q by omega] at c5
          obtain ⟨Gs, f, lv, ⟨r0, hr0⟩, hg, hl, hL, hS, hV, hT, hZ, hH⟩ := hs
          obtain ⟨v1, st1, rfl, ⟨ik, rfl, hik⟩, hS1⟩ := SR_cons hS
          obtain ⟨v2, st2, rfl, ⟨a, rfl, hB⟩, hS2⟩ := SR_cons hS1
          have ea := (xB_str hst hn).mp hB
          subst ea
          obtain ⟨p1, p2, p3⟩ := xat_ok c5 hg hik
          have b1 := (vp_in_iff.mp p1)
          have hcat : (st2.map fun v => v.category).sum ≤ 8 := by rw [SR_cat hS2]; exact c4
          obtain ⟨-, e2, e3⟩ := chS_ok q hn ik.toInt.toNat (by omega)
          obtain ⟨tq, g1, g2⟩ := xmk_ok0 (lo := 0) (hi := 255) hg e2 e3
          refine px_callX (As := [.int ik]) (rest := st2) (na := 1) X hH (c_charAt l D t lo E.2.1.length f hn (by omega) (by omega)) (vk_recv (adK := fun i => t (100 + i)) (SX_eq.mp hH.2.2.1.2).1 hn hH.2.2.2) m1 m6 m7 m3 m2 ⟨rfl, m4⟩ (by omega) hRc hl.1 rfl rfl hcat hd (fun H1 locs1 hH1 _ => ?_)
          exact kk _ List.mem_cons_self _ _ _ _ ⟨Gs ++ tq, f, lv, ⟨r0 ++ tq, by rw [hr0, List.append_assoc]⟩, g1, hl, LR_mono hL, ⟨⟨_, rfl, g2⟩, SR_mono hS2⟩, VOK_mono hV, hT, hZ, hH1⟩
        · cases h
      · cases h
    · cases h
  · rename_i i
    split at h
    · rename_i pc gi L b a S V
      obtain ⟨Gs, f, lv, hr0, hg, hl, hL, hS, hV, hT, hZ, hH⟩ := hs
      obtain ⟨v1, st1, rfl, ⟨ib, rfl, vb⟩, hS1⟩ := SR_cons hS
      obtain ⟨v2, st2, rfl, ⟨ia, rfl, va⟩, hS2⟩ := SR_cons hS1
      split at h
      · rename_i no na ci hx
        split at h
        · rename_i c1
          simp only [Option.some.injEq] at h
          obtain ⟨Y, hY, -, m6, -, -⟩ := hml i no 6 na ci hx
          obtain ⟨m1, m2, m3, m4⟩ := m6 rfl
          have hcat : (st2.map fun v => v.category).sum ≤ 8 := by rw [SR_cat hS2]; exact c1.2
          refine va_mmax X.1 X.2.1 (by rw [X.2.2.1, hl.1]) X.2.2.2.1 (X.2.2.2.2.1 _ m1) (X.2.2.2.2.1 _ m2) (X.2.2.2.2.1 _ m3) (X.2.2.2.2.1 _ m4) (by omega) (by omega) hRc.1 hRc.2 hd ?_
          by_cases cl : ia < ib
          · rw [if_pos cl]
            obtain ⟨g, g1, g2⟩ := xlt_ok hg va vb (Int32.lt_iff_toInt_lt.mp cl)
            exact kk (pc + 3, g, L, .inl (.inl b) :: S, V) (by rw [← h, g1]; exact List.mem_append_left _ List.mem_cons_self) _ _ _ _ ⟨Gs, f, lv, hr0, g2, hl, hL, ⟨⟨_, rfl, vb⟩, hS2⟩, hV, hT, hZ, hH⟩
          · rw [if_neg cl]
            obtain ⟨g, g1, g2⟩ := xle_ok hg vb va (Int.not_lt.mp (fun q => cl (Int32.lt_iff_toInt_lt.mpr q)))
            exact kk (pc + 3, g, L, .inl (.inl a) :: S, V) (by rw [← h, g1]; exact List.mem_append_right _ List.mem_cons_self) _ _ _ _ ⟨Gs, f, lv, hr0, g2, hl, hL, ⟨⟨_, rfl, va⟩, hS2⟩, hV, hT, hZ, hH⟩
        · cases h
      · rename_i no na ci hx
        split at h
        · rename_i c1
          simp only [Option.some.injEq] at h
          obtain ⟨Y, hY, -, -, m6, -⟩ := hml i no 7 na ci hx
          obtain ⟨m1, m2, m3, m4⟩ := m6 rfl
          have hcat : (st2.map fun v => v.category).sum ≤ 8 := by rw [SR_cat hS2]; exact c1.2
          refine va_mmin X.1 X.2.1 (by rw [X.2.2.1, hl.1]) X.2.2.2.1 (X.2.2.2.2.1 _ m1) (X.2.2.2.2.1 _ m2) (X.2.2.2.2.1 _ m3) (X.2.2.2.2.1 _ m4) (by omega) (by omega) hRc.1 hRc.2 hd ?_
          by_cases cl : ib < ia
          · rw [if_pos cl]
            obtain ⟨g, g1, g2⟩ := xlt_ok hg vb va (Int32.lt_iff_toInt_lt.mp cl)
            exact kk (pc + 3, g, L, .inl (.inl b) :: S, V) (by rw [← h, g1]; exact List.mem_append_left _ List.mem_cons_self) _ _ _ _ ⟨Gs, f, lv, hr0, g2, hl, hL, ⟨⟨_, rfl, vb⟩, hS2⟩, hV, hT, hZ, hH⟩
          · rw [if_neg cl]
            obtain ⟨g, g1, g2⟩ := xle_ok hg va vb (Int.not_lt.mp (fun q => cl (Int32.lt_iff_toInt_lt.mpr q)))
            exact kk (pc + 3, g, L, .inl (.inl a) :: S, V) (by rw [← h, g1]; exact List.mem_append_right _ List.mem_cons_self) _ _ _ _ ⟨Gs, f, lv, hr0, g2, hl, hL, ⟨⟨_, rfl, va⟩, hS2⟩, hV, hT, hZ, hH⟩
        · cases h
      · cases h
    · cases h
  · cases h
end XHH
