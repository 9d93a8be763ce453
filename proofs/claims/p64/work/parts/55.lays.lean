/-! lays -/
theorem mw_1594 : Jvm.Cond.methodLink "BellMoneyModel" (279 : Nat) ({ cls := "BellMoneyModel", name := "begin", desc := "()V" } : Jvm.MethodName) ∈ Wd := List.mem_filter.mpr ⟨List.mem_of_getElem? (i := 1696) (by decide +kernel), by decide +kernel⟩
theorem mw_1596 : Jvm.Cond.instanceMethod ({ cls := "BellMoneyModel", name := "begin", desc := "()V" } : Jvm.MethodName) ∈ Wd := List.mem_filter.mpr ⟨List.mem_of_getElem? (i := 1698) (by decide +kernel), by decide +kernel⟩
theorem mw_1597 : Jvm.Cond.code ({ cls := "BellMoneyModel", name := "begin", desc := "()V" } : Jvm.MethodName) prog_13_method_44_code (2 : Nat) (Option.none : Option Jvm.ClassFile.FieldType) ∈ Wd := List.mem_filter.mpr ⟨List.mem_of_getElem? (i := 1699) (by decide +kernel), by decide +kernel⟩
theorem ms_64 : Cond.selects "BellMoneyModel" ⟨"BellMoneyModel", "begin", "()V"⟩ ⟨"BellMoneyModel", "begin", "()V"⟩ ∈ Wd := List.mem_filter.mpr ⟨List.mem_of_getElem? (i := 64) (by decide +kernel), by decide +kernel⟩
theorem mw_1617 : Jvm.Cond.methodLink "BellMoneyModel" (285 : Nat) ({ cls := "BellMoneyModel", name := "founds", desc := "(IIII)V" } : Jvm.MethodName) ∈ Wd := List.mem_filter.mpr ⟨List.mem_of_getElem? (i := 1719) (by decide +kernel), by decide +kernel⟩
theorem mw_1619 : Jvm.Cond.instanceMethod ({ cls := "BellMoneyModel", name := "founds", desc := "(IIII)V" } : Jvm.MethodName) ∈ Wd := List.mem_filter.mpr ⟨List.mem_of_getElem? (i := 1721) (by decide +kernel), by decide +kernel⟩
theorem mw_1620 : Jvm.Cond.code ({ cls := "BellMoneyModel", name := "founds", desc := "(IIII)V" } : Jvm.MethodName) prog_13_method_52_code (7 : Nat) (Option.none : Option Jvm.ClassFile.FieldType) ∈ Wd := List.mem_filter.mpr ⟨List.mem_of_getElem? (i := 1722) (by decide +kernel), by decide +kernel⟩
theorem ms_69 : Cond.selects "BellMoneyModel" ⟨"BellMoneyModel", "founds", "(IIII)V"⟩ ⟨"BellMoneyModel", "founds", "(IIII)V"⟩ ∈ Wd := List.mem_filter.mpr ⟨List.mem_of_getElem? (i := 69) (by decide +kernel), by decide +kernel⟩
theorem typ_refs {xt : XX} {t : Nat → ClassId} {lo : Nat} {f : Nat → va_E} (h : TYP Em xt t lo f) : ∃ fs : List Value, f lo = .inr (11, fs) ∧ fs.length = 49 ∧ ∀ (k q : Nat), (∃ ts, Em.1[0]? = some (.inl (11, ts)) ∧ ts[k]? = some (tR q)) → q < 17 → fs[k]? = some (.ref (lo + q)) := by
  obtain ⟨fs, e1, e2, e3⟩ := typ_at h (i := 0) (k := 0) rfl (rfl : Em.1[0]? = some _)
  refine ⟨fs, e1, e2, fun k q hk hq => ?_⟩
  obtain ⟨ts, h1, h2⟩ := hk
  cases h1
  obtain ⟨v, q1, a, rfl, q2⟩ := e3 k (tR q) h2
  have hq' : ∃ y, Em.1[q]? = some y := ⟨_, List.getElem?_eq_getElem (show q < Em.1.length from hq)⟩
  obtain ⟨y, hy⟩ := hq'
  obtain ⟨i, rfl, q3⟩ := xB_in q2 hy
  cases kdm_eq q3
  exact q1
theorem toI {x : Int32} {k : Nat} (h : x.toInt = (k : Int)) (hk : k < 2 ^ 31) : x = nI k := Int32.toInt_inj.mp (by rw [h, nI_toInt hk])
theorem crk_b {c a : Int32} (h1 : 0 ≤ c.toInt) (h2 : c.toInt ≤ 1023) (h3 : 0 ≤ a.toInt) (h4 : a.toInt ≤ 9) : 0 ≤ (c ||| (1 : Int32) <<< (a &&& 31)).toInt ∧ (c ||| (1 : Int32) <<< (a &&& 31)).toInt ≤ 1023 := by
  obtain ⟨k, hk⟩ : ∃ k : Nat, a.toInt = (k : Int) := ⟨a.toInt.toNat, by omega⟩
  have ea : a = Int32.ofInt ((k : Nat) : Int) := Int32.toInt_inj.mp (by rw [hk, Int32.toInt_ofInt, bm32 (by have z1 : lo32 = -2147483648 := rfl; omega) (by have z1 : hi32 = 2147483647 := rfl; omega)])
  have e := shl1 ⟨k, by omega⟩
  simp only at e
  rw [← ea] at e
  have hp : (2 : Int) ^ k ≤ 2 ^ 9 := by
    have := Nat.pow_le_pow_right (n := 2) (by decide) (show k ≤ 9 by omega)
    exact_mod_cast this
  have hp0 : (0 : Int) ≤ 2 ^ k := by exact_mod_cast Nat.zero_le (2 ^ k)
  have := or_bnd (x := c) (y := (1 : Int32) <<< (a &&& 31)) (k := 10) (by decide) h1 (by omega) (by rw [e]; exact hp0) (by rw [e]; omega)
  omega
section
variable {p : Program} {l : Launch} {e : Env} {s : State} {m : MethodId} {args : Array Value} {below : List Frame} {meth : Method} {c : Code} {D : va_G} {t : Nat → ClassId} {lo : Nat} {f1 : Nat → va_E} {N : Nat}
abbrev LZ (t : Nat → ClassId) (lo : Nat) (f1 : Nat → va_E) (N : Nat) : Option Value → (Nat → va_E) → Prop := fun ov f2 => ov = none ∧ LINV t lo f1 N f2

theorem ly_loop (X : CX p s m args meth c RX11 cX11_lays 3 none) (hG : GI lo f1) (hN : cv f1 (lo + 7) 12 = (N : Int)) (hN4 : N ≤ 40) : ∀ (d k : Nat) (f : Nat → va_E) (H : Heap) (locs : List Loc) (ls : Array Slot), N ≤ k + d → k ≤ N → LINV t lo f1 k f → HX D t lo 17 f (px_A lo 17) s H locs → lv_has ls 3 [(1, .int (nI k)), (0, .ref lo)] → W p l e (px_rm 6) s m args below meth c H locs 0 0 (MQ below (QcZ D lo 17 (LZ t lo f1 N)) args s 0 0 (px_A lo 17)) (F0 m 6 ls []) := by
  intro d
  induction d with
  | zero =>
    intro k f H locs ls hd hkN hI hH hl
    have hI0 := hI
    obtain ⟨v1, v2, v3, v4, v5, v6, v7⟩ := hI0
    have hTm : TYP Em (xte El f1 t) t lo f := typ_lm rfl v2
    obtain ⟨fs, o0, o49, orf⟩ := typ_refs hTm
    have o17 : fs[17]? = some (.ref (lo + 7)) := orf 17 7 ⟨_, rfl, rfl⟩ (by decide)
    have o22 : fs[22]? = some (.ref (lo + 12)) := orf 22 12 ⟨_, rfl, rfl⟩ (by decide)
    obtain ⟨gh, p7, -, -⟩ := (cok_arr (by decide)).mp (typ_at hTm (i := 7) (k := 7) rfl (rfl : Em.1[7]? = some _))
    obtain ⟨ga, p12, p12b, -⟩ := (cok_arr (by decide)).mp (typ_at hTm (i := 12) (k := 12) rfl (rfl : Em.1[12]? = some _))
    have k0 : px_at lo 17 f lo (.inr (11, fs)) := ⟨⟨by omega, by omega⟩, o0⟩
    have eN : gh 12 = nI N := toI (by
      rw [← cv_arr p7 (show 12 < 65 by decide), gs_cv v3 rfl rfl ⟨(3, 52), by decide, by decide, by decide⟩]
      exact hN) (by omega)
    refine lv_iload_n X.1 X.2.1 (show decode cX11_lays 6 = .ok (.iload_n 1, 1) by decide +kernel) rfl (lv_at hl 0 rfl) ?_
    refine lv_aload_n X.1 X.2.1 (show decode cX11_lays 7 = .ok (.aload_n 0, 1) by decide +kernel) rfl (lv_at hl 1 rfl) ?_
    refine bx_get fl_X11_ok (i := 34) rfl X hH k0 o17 (show decode cX11_lays 8 = .ok (.getfield 34, 3) by decide +kernel) ?_
    refine lv_bipush (v := 12) X.1 X.2.1 (show decode cX11_lays 11 = .ok (.bipush 12, 2) by decide +kernel) (by decide) ?_
    refine bx_iald X hH ⟨⟨by omega, by omega⟩, p7⟩ (j := 12) rfl (by decide) (by decide) (show decode cX11_lays 13 = .ok (.iaload, 1) by decide +kernel) ?_
    rw [eN]
    refine lv_icmp_ge (tgt := 136) X.1 X.2.1 (show decode cX11_lays 14 = .ok (.if_icmp .ge 122, 3) by decide +kernel) (by decide) (fun q => ?e) (fun q => ?b)
    case e =>
      rw [nI_leI (by omega) (by omega)] at q
      have ek : k = N := by omega
      subst ek
      refine lv_aload_n X.1 X.2.1 (show decode cX11_lays 136 = .ok (.aload_n 0, 1) by decide +kernel) rfl (lv_at hl 1 rfl) ?_
      refine lv_iconst (v := (-1)) X.1 X.2.1 (show decode cX11_lays 137 = .ok (.iconst (-1), 1) by decide +kernel) (by decide) ?_
      refine bx_puti fl_X11_ok (i := 273) rfl X hH k0 (by omega) (show decode cX11_lays 138 = .ok (.putfield 273, 3) by decide +kernel) (fun H1 locs1 h1 => ?_)
      have I1 := LINV_put hI o0 (x := 35) (v := -1) (Or.inr ⟨Or.inr rfl, by decide, by decide⟩)
      refine lv_aload_n X.1 X.2.1 (show decode cX11_lays 141 = .ok (.aload_n 0, 1) by decide +kernel) rfl (lv_at hl 1 rfl) ?_
      refine lv_iconst (v := (-1)) X.1 X.2.1 (show decode cX11_lays 142 = .ok (.iconst (-1), 1) by decide +kernel) (by decide) ?_
      refine bx_puti fl_X11_ok (i := 276) rfl X h1 ⟨⟨by omega, by omega⟩, va_up_self ..⟩ (by rw [List.length_set]; omega) (show decode cX11_lays 143 = .ok (.putfield 276, 3) by decide +kernel) (fun H2 locs2 h2 => ?_)
      have I2 := LINV_put I1 (va_up_self ..) (x := 34) (v := -1) (Or.inr ⟨Or.inl rfl, by decide, by decide⟩)
      exact z_vret X h2 ⟨rfl, I2⟩ (show decode cX11_lays 146 = .ok (.return_, 1) by decide +kernel)
    case b =>
      rw [nI_leI (by omega) (by omega)] at q
      exact absurd q (by omega)
  | succ d ih =>
    intro k f H locs ls hd hkN hI hH hl
    have hI0 := hI
    obtain ⟨v1, v2, v3, v4, v5, v6, v7⟩ := hI0
    have hTm : TYP Em (xte El f1 t) t lo f := typ_lm rfl v2
    obtain ⟨fs, o0, o49, orf⟩ := typ_refs hTm
    have o17 : fs[17]? = some (.ref (lo + 7)) := orf 17 7 ⟨_, rfl, rfl⟩ (by decide)
    have o22 : fs[22]? = some (.ref (lo + 12)) := orf 22 12 ⟨_, rfl, rfl⟩ (by decide)
    obtain ⟨gh, p7, -, -⟩ := (cok_arr (by decide)).mp (typ_at hTm (i := 7) (k := 7) rfl (rfl : Em.1[7]? = some _))
    obtain ⟨ga, p12, p12b, -⟩ := (cok_arr (by decide)).mp (typ_at hTm (i := 12) (k := 12) rfl (rfl : Em.1[12]? = some _))
    have k0 : px_at lo 17 f lo (.inr (11, fs)) := ⟨⟨by omega, by omega⟩, o0⟩
    have eN : gh 12 = nI N := toI (by
      rw [← cv_arr p7 (show 12 < 65 by decide), gs_cv v3 rfl rfl ⟨(3, 52), by decide, by decide, by decide⟩]
      exact hN) (by omega)
    refine lv_iload_n X.1 X.2.1 (show decode cX11_lays 6 = .ok (.iload_n 1, 1) by decide +kernel) rfl (lv_at hl 0 rfl) ?_
    refine lv_aload_n X.1 X.2.1 (show decode cX11_lays 7 = .ok (.aload_n 0, 1) by decide +kernel) rfl (lv_at hl 1 rfl) ?_
    refine bx_get fl_X11_ok (i := 34) rfl X hH k0 o17 (show decode cX11_lays 8 = .ok (.getfield 34, 3) by decide +kernel) ?_
    refine lv_bipush (v := 12) X.1 X.2.1 (show decode cX11_lays 11 = .ok (.bipush 12, 2) by decide +kernel) (by decide) ?_
    refine bx_iald X hH ⟨⟨by omega, by omega⟩, p7⟩ (j := 12) rfl (by decide) (by decide) (show decode cX11_lays 13 = .ok (.iaload, 1) by decide +kernel) ?_
    rw [eN]
    refine lv_icmp_ge (tgt := 136) X.1 X.2.1 (show decode cX11_lays 14 = .ok (.if_icmp .ge 122, 3) by decide +kernel) (by decide) (fun q => ?e) (fun q => ?b)
    case e =>
      rw [nI_leI (by omega) (by omega)] at q
      have ek : k = N := by omega
      subst ek
      refine lv_aload_n X.1 X.2.1 (show decode cX11_lays 136 = .ok (.aload_n 0, 1) by decide +kernel) rfl (lv_at hl 1 rfl) ?_
      refine lv_iconst (v := (-1)) X.1 X.2.1 (show decode cX11_lays 137 = .ok (.iconst (-1), 1) by decide +kernel) (by decide) ?_
      refine bx_puti fl_X11_ok (i := 273) rfl X hH k0 (by omega) (show decode cX11_lays 138 = .ok (.putfield 273, 3) by decide +kernel) (fun H1 locs1 h1 => ?_)
      have I1 := LINV_put hI o0 (x := 35) (v := -1) (Or.inr ⟨Or.inr rfl, by decide, by decide⟩)
      refine lv_aload_n X.1 X.2.1 (show decode cX11_lays 141 = .ok (.aload_n 0, 1) by decide +kernel) rfl (lv_at hl 1 rfl) ?_
      refine lv_iconst (v := (-1)) X.1 X.2.1 (show decode cX11_lays 142 = .ok (.iconst (-1), 1) by decide +kernel) (by decide) ?_
      refine bx_puti fl_X11_ok (i := 276) rfl X h1 ⟨⟨by omega, by omega⟩, va_up_self ..⟩ (by rw [List.length_set]; omega) (show decode cX11_lays 143 = .ok (.putfield 276, 3) by decide +kernel) (fun H2 locs2 h2 => ?_)
      have I2 := LINV_put I1 (va_up_self ..) (x := 34) (v := -1) (Or.inr ⟨Or.inl rfl, by decide, by decide⟩)
      exact z_vret X h2 ⟨rfl, I2⟩ (show decode cX11_lays 146 = .ok (.return_, 1) by decide +kernel)
    case b =>
      rw [nI_leI (by omega) (by omega)] at q
      have bk := hG.1 0 (by decide)
      obtain ⟨-, bact, ⟨bh0, bh8, bcast⟩, -, blin⟩ := bk
      simp only [Nat.mul_zero, Nat.zero_add] at bact bh0 bh8 bcast blin
      rw [hN] at bcast
      have eNN : ((N : Int)).toNat = N := by omega
      rw [eNN] at bcast
      have act := bact k (by rw [hN]; omega)
      have lin : 1 ≤ cv f (lo + 6) 0 := by
        rw [gs_cv v3 rfl rfl ⟨(0, 4), by decide, by decide, by decide⟩]
        rcases blin with h | h
        · rw [hN] at h; omega
        · exact h.1
      have lin2 : cv f (lo + 6) 0 ≤ 1401 := by
        obtain ⟨i, a1, a2, a3, a4⟩ := VB_at v1 (show El.2.2.2[11]? = some (6, 0) from rfl) (show VLg[11]? = some (pI 0 1401) from rfl)
        omega
      have ca : ∀ j : Nat, j < 1000 → (ga j).toInt = cv f1 (lo + 12) j := fun j hj => by
        rw [← cv_arr p12 hj, gs_cv v3 rfl rfl ⟨(0, 1000), by decide, by omega, hj⟩]
      have hcm := casts_mono (f := f1) (lo := lo) (t := 0) (m := k) (n := N) hkN
      have tail : ∀ (f2 : Nat → va_E) (H2 : Heap) (locs2 : List Loc) (ls2 : Array Slot), LINV t lo f1 (k + 1) f2 → HX D t lo 17 f2 (px_A lo 17) s H2 locs2 → lv_has ls2 3 [(2, .int (nI (5 * k))), (1, .int (nI k)), (0, .ref lo)] → W p l e (px_rm 6) s m args below meth c H2 locs2 0 0 (MQ below (QcZ D lo 17 (LZ t lo f1 N)) args s 0 0 (px_A lo 17)) (F0 m 130 ls2 []) := by
        intro f2 H2 locs2 ls2 I2 hH2 hl2
        refine lv_iinc (k := 1) X.1 X.2.1 (show decode cX11_lays 130 = .ok (.iinc 1 1, 3) by decide +kernel) hl2 rfl (show nI k + Int32.ofInt 1 = nI (k + 1) from nI_add k 1) (by decide) rfl (fun ls3 hl3 => ?_)
        refine lv_goto (tgt := 6) X.1 X.2.1 (show decode cX11_lays 133 = .ok (.goto (-127), 3) by decide +kernel) (by decide) ?_
        exact ih (k + 1) f2 H2 locs2 ls3 (by omega) (by omega) I2 hH2 (lv_less hl3 (fun z hz => by
          simp only [List.mem_cons, List.not_mem_nil, or_false] at hz
          rcases hz with rfl | rfl
          · exact List.mem_cons_self
          · exact List.mem_cons_of_mem _ (List.mem_filter.mpr ⟨by simp, by rfl⟩)))
      refine lv_iconst (v := 5) X.1 X.2.1 (show decode cX11_lays 17 = .ok (.iconst 5, 1) by decide +kernel) (by decide) ?_
      refine lv_iload_n X.1 X.2.1 (show decode cX11_lays 18 = .ok (.iload_n 1, 1) by decide +kernel) rfl (lv_at hl 0 rfl) ?_
      refine lv_imul X.1 X.2.1 (show decode cX11_lays 19 = .ok (.imul, 1) by decide +kernel) ?_
      rw [show (5 : Int32) = nI 5 from rfl, nI_mul]
      refine lv_istore_n X.1 X.2.1 (show decode cX11_lays 20 = .ok (.istore_n 2, 1) by decide +kernel) rfl hl (by decide) rfl (fun ls hl => ?_)
      have hl : lv_has ls 3 [(2, .int (nI (5 * k))), (1, .int (nI k)), (0, .ref lo)] := hl
      refine lv_aload_n X.1 X.2.1 (show decode cX11_lays 21 = .ok (.aload_n 0, 1) by decide +kernel) rfl (lv_at hl 2 rfl) ?_
      refine bx_get fl_X11_ok (i := 49) rfl X hH k0 o22 (show decode cX11_lays 22 = .ok (.getfield 49, 3) by decide +kernel) ?_
      refine lv_iload_n X.1 X.2.1 (show decode cX11_lays 25 = .ok (.iload_n 2, 1) by decide +kernel) rfl (lv_at hl 0 rfl) ?_
      refine bx_iald X hH ⟨⟨by omega, by omega⟩, p12⟩ (j := 5 * k) (rfl) (by omega) (by decide) (show decode cX11_lays 26 = .ok (.iaload, 1) by decide +kernel) ?_
      have c0 := ca (5 * k) (by omega)
      have c1 := ca (5 * k + 1) (by omega)
      have hxB : xB El lo (xte El f1 t) 0 lo := xB_of (i := 0) rfl (rfl : El.1[0]? = some _)
      have vb11 : VB El lo (VLg.set 11 (pI 1 1401)) f := VB_set v1 (show El.2.2.2[11]? = some (6, 0) from rfl) ⟨lin, lin2⟩
      refine lv_if_ne (tgt := 45) X.1 X.2.1 (show decode cX11_lays 27 = .ok (.ifCond .ne 18, 3) by decide +kernel) (by decide) (fun z0 => ?n0) (fun z0 => ?m0)
      case m0 =>
        rw [z0] at c0
        have c00 : cv f1 (lo + 12) (5 * k) = 0 := by rw [← c0]; rfl
        have hb9 := act.2.1 (Or.inl c00)
        rw [← c1] at hb9
        refine lv_aload_n X.1 X.2.1 (show decode cX11_lays 30 = .ok (.aload_n 0, 1) by decide +kernel) rfl (lv_at hl 2 rfl) ?_
        refine lv_aload_n X.1 X.2.1 (show decode cX11_lays 31 = .ok (.aload_n 0, 1) by decide +kernel) rfl (lv_at hl 2 rfl) ?_
        refine bx_get fl_X11_ok (i := 49) rfl X hH k0 o22 (show decode cX11_lays 32 = .ok (.getfield 49, 3) by decide +kernel) ?_
        refine lv_iload_n X.1 X.2.1 (show decode cX11_lays 35 = .ok (.iload_n 2, 1) by decide +kernel) rfl (lv_at hl 0 rfl) ?_
        refine lv_iconst (v := 1) X.1 X.2.1 (show decode cX11_lays 36 = .ok (.iconst 1, 1) by decide +kernel) (by decide) ?_
        refine lv_iadd X.1 X.2.1 (show decode cX11_lays 37 = .ok (.iadd, 1) by decide +kernel) ?_
        refine bx_iald X hH ⟨⟨by omega, by omega⟩, p12⟩ (j := 5 * k + 1) (nI_add _ 1) (by omega) (by decide) (show decode cX11_lays 38 = .ok (.iaload, 1) by decide +kernel) ?_
        refine z_callV (Y := Yl11) (n := 17) (idx := 282) (na := 1) (b := lo) (As := [.int (ga (5 * k + 1))]) (rest := []) X hH (MetZ.ofX (Hl15 l (xte El f1 t) D t lo (twxl hG)) (ent_of (zs := [0, (ga (5 * k + 1)).toInt]) rfl (by rw [V_mel]; exact vb11) ⟨⟨⟨lo, rfl, hxB⟩, rfl⟩, ⟨_, rfl, rfl, hb9.1, hb9.2⟩, trivial⟩ rfl) v2 v3) k0 (rfl : vwCl[11]? = some _) mw_1602 mw_1604 ms_66 mw_12 mw_1605 (by decide +kernel) ⟨by decide, by decide⟩ ⟨Nat.le_refl _, Nat.le_refl _⟩ hl.1 rfl rfl (by decide) (show decode cX11_lays 39 = .ok (.invokevirtual 282, 3) by decide +kernel) (fun ov f2 hz H2 locs2 hH2 => ?_)
        obtain ⟨o, ho, hO, hT2, hF2⟩ := hz
        have hb := List.all_eq_true.mp mel_all o ho
        simp only [Bool.and_eq_true, decide_eq_true_eq] at hb
        cases OOK_none hO hb.2
        refine lv_goto (tgt := 130) X.1 X.2.1 (show decode cX11_lays 42 = .ok (.goto 88, 3) by decide +kernel) (by decide) ?_
        refine tail f2 H2 locs2 ls (LINV_keep hI hO hb.1.1 hb.1.2 (fun j hj => by cases hj) hT2 hF2.2 ?_ ?_ (by omega)) hH2 hl
        · obtain ⟨i, a1, a2, a3⟩ := kept_at hO hb.1.1 trl_6 (by omega) (by simp)
          obtain ⟨i2, b1, b2, b3, b4⟩ := VB_at v1 trl_6 (show VLg[6]? = some (pI 0 40) from rfl)
          exact ⟨i, a1, by omega, by omega, by omega⟩
        · obtain ⟨i, a1, a2, a3⟩ := kept_at hO hb.1.1 trl_7 (by omega) (by simp)
          obtain ⟨i2, b1, b2, b3, b4⟩ := VB_at v1 trl_7 (show VLg[7]? = some (pI 0 9) from rfl)
          exact ⟨i, a1, by omega, by omega⟩
      refine lv_aload_n X.1 X.2.1 (show decode cX11_lays 45 = .ok (.aload_n 0, 1) by decide +kernel) rfl (lv_at hl 2 rfl) ?_
      refine bx_get fl_X11_ok (i := 49) rfl X hH k0 o22 (show decode cX11_lays 46 = .ok (.getfield 49, 3) by decide +kernel) ?_
      refine lv_iload_n X.1 X.2.1 (show decode cX11_lays 49 = .ok (.iload_n 2, 1) by decide +kernel) rfl (lv_at hl 0 rfl) ?_
      refine bx_iald X hH ⟨⟨by omega, by omega⟩, p12⟩ (j := 5 * k) (rfl) (by omega) (by decide) (show decode cX11_lays 50 = .ok (.iaload, 1) by decide +kernel) ?_
      refine lv_iconst (v := 1) X.1 X.2.1 (show decode cX11_lays 51 = .ok (.iconst 1, 1) by decide +kernel) (by decide) ?_
      refine lv_icmp_ne (tgt := 94) X.1 X.2.1 (show decode cX11_lays 52 = .ok (.if_icmp .ne 42, 3) by decide +kernel) (by decide) (fun z1 => ?n1) (fun z1 => ?m1)
      case m1 =>
        rw [z1] at c0
        have c00 : cv f1 (lo + 12) (5 * k) = 1 := by rw [← c0]; rfl
        have hb9 := act.2.2 c00
        rw [← c1] at hb9
        have hcs : casts f1 lo 0 (k + 1) = casts f1 lo 0 k + 1 := by
          simp only [casts, Nat.mul_zero, Nat.zero_add]
          rw [if_pos c00]
        have hcm1 := casts_mono (f := f1) (lo := lo) (t := 0) (m := k + 1) (n := N) (by omega)
        refine lv_aload_n X.1 X.2.1 (show decode cX11_lays 55 = .ok (.aload_n 0, 1) by decide +kernel) rfl (lv_at hl 2 rfl) ?_
        refine lv_aload_n X.1 X.2.1 (show decode cX11_lays 56 = .ok (.aload_n 0, 1) by decide +kernel) rfl (lv_at hl 2 rfl) ?_
        refine bx_get fl_X11_ok (i := 49) rfl X hH k0 o22 (show decode cX11_lays 57 = .ok (.getfield 49, 3) by decide +kernel) ?_
        refine lv_iload_n X.1 X.2.1 (show decode cX11_lays 60 = .ok (.iload_n 2, 1) by decide +kernel) rfl (lv_at hl 0 rfl) ?_
        refine lv_iconst (v := 1) X.1 X.2.1 (show decode cX11_lays 61 = .ok (.iconst 1, 1) by decide +kernel) (by decide) ?_
        refine lv_iadd X.1 X.2.1 (show decode cX11_lays 62 = .ok (.iadd, 1) by decide +kernel) ?_
        refine bx_iald X hH ⟨⟨by omega, by omega⟩, p12⟩ (j := 5 * k + 1) (nI_add _ 1) (by omega) (by decide) (show decode cX11_lays 63 = .ok (.iaload, 1) by decide +kernel) ?_
        refine lv_aload_n X.1 X.2.1 (show decode cX11_lays 64 = .ok (.aload_n 0, 1) by decide +kernel) rfl (lv_at hl 2 rfl) ?_
        refine bx_get fl_X11_ok (i := 49) rfl X hH k0 o22 (show decode cX11_lays 65 = .ok (.getfield 49, 3) by decide +kernel) ?_
        refine lv_iload_n X.1 X.2.1 (show decode cX11_lays 68 = .ok (.iload_n 2, 1) by decide +kernel) rfl (lv_at hl 0 rfl) ?_
        refine lv_iconst (v := 2) X.1 X.2.1 (show decode cX11_lays 69 = .ok (.iconst 2, 1) by decide +kernel) (by decide) ?_
        refine lv_iadd X.1 X.2.1 (show decode cX11_lays 70 = .ok (.iadd, 1) by decide +kernel) ?_
        refine bx_iald X hH ⟨⟨by omega, by omega⟩, p12⟩ (j := 5 * k + 2) (nI_add _ 2) (by omega) (by decide) (show decode cX11_lays 71 = .ok (.iaload, 1) by decide +kernel) ?_
        refine lv_aload_n X.1 X.2.1 (show decode cX11_lays 72 = .ok (.aload_n 0, 1) by decide +kernel) rfl (lv_at hl 2 rfl) ?_
        refine bx_get fl_X11_ok (i := 49) rfl X hH k0 o22 (show decode cX11_lays 73 = .ok (.getfield 49, 3) by decide +kernel) ?_
        refine lv_iload_n X.1 X.2.1 (show decode cX11_lays 76 = .ok (.iload_n 2, 1) by decide +kernel) rfl (lv_at hl 0 rfl) ?_
        refine lv_iconst (v := 3) X.1 X.2.1 (show decode cX11_lays 77 = .ok (.iconst 3, 1) by decide +kernel) (by decide) ?_
        refine lv_iadd X.1 X.2.1 (show decode cX11_lays 78 = .ok (.iadd, 1) by decide +kernel) ?_
        refine bx_iald X hH ⟨⟨by omega, by omega⟩, p12⟩ (j := 5 * k + 3) (nI_add _ 3) (by omega) (by decide) (show decode cX11_lays 79 = .ok (.iaload, 1) by decide +kernel) ?_
        refine lv_aload_n X.1 X.2.1 (show decode cX11_lays 80 = .ok (.aload_n 0, 1) by decide +kernel) rfl (lv_at hl 2 rfl) ?_
        refine bx_get fl_X11_ok (i := 49) rfl X hH k0 o22 (show decode cX11_lays 81 = .ok (.getfield 49, 3) by decide +kernel) ?_
        refine lv_iload_n X.1 X.2.1 (show decode cX11_lays 84 = .ok (.iload_n 2, 1) by decide +kernel) rfl (lv_at hl 0 rfl) ?_
        refine lv_iconst (v := 4) X.1 X.2.1 (show decode cX11_lays 85 = .ok (.iconst 4, 1) by decide +kernel) (by decide) ?_
        refine lv_iadd X.1 X.2.1 (show decode cX11_lays 86 = .ok (.iadd, 1) by decide +kernel) ?_
        refine bx_iald X hH ⟨⟨by omega, by omega⟩, p12⟩ (j := 5 * k + 4) (nI_add _ 4) (by omega) (by decide) (show decode cX11_lays 87 = .ok (.iaload, 1) by decide +kernel) ?_
        refine z_callV (Y := Yl1) (n := 17) (idx := 285) (na := 4) (b := lo) (As := [.int (ga (5 * k + 1)), .int (ga (5 * k + 2)), .int (ga (5 * k + 3)), .int (ga (5 * k + 4))]) (rest := []) X hH (MetZ.ofX (Hl1 l (xte El f1 t) D t lo (twxl hG)) (ent_of (zs := [0, (ga (5 * k + 1)).toInt, (ga (5 * k + 2)).toInt, (ga (5 * k + 3)).toInt, (ga (5 * k + 4)).toInt]) rfl (by rw [V_fnd]; exact VB_set vb11 trl_5 ⟨by have := casts_nn (f := f1) (lo := lo) (t := 0) k; omega, by omega⟩) ⟨⟨⟨lo, rfl, hxB⟩, rfl⟩, ⟨_, rfl, rfl, hb9.1, hb9.2⟩, ⟨_, rfl, rfl, p12b _ (by omega)⟩, ⟨_, rfl, rfl, p12b _ (by omega)⟩, ⟨_, rfl, rfl, p12b _ (by omega)⟩, trivial⟩ rfl) v2 v3) k0 (rfl : vwCl[11]? = some _) mw_1617 mw_1619 ms_69 mw_12 mw_1620 (by decide +kernel) ⟨by decide, by decide⟩ ⟨Nat.le_refl _, Nat.le_refl _⟩ hl.1 rfl rfl (by decide) (show decode cX11_lays 88 = .ok (.invokevirtual 285, 3) by decide +kernel) (fun ov f2 hz H2 locs2 hH2 => ?_)
        obtain ⟨o, ho, hO, hT2, hF2⟩ := hz
        obtain ⟨rfl, I2⟩ := LINV_found hI hO ho hb9 hT2 hF2.2 (by omega) c00
        refine lv_goto (tgt := 130) X.1 X.2.1 (show decode cX11_lays 91 = .ok (.goto 39, 3) by decide +kernel) (by decide) ?_
        exact tail f2 H2 locs2 ls I2 hH2 hl
      refine lv_aload_n X.1 X.2.1 (show decode cX11_lays 94 = .ok (.aload_n 0, 1) by decide +kernel) rfl (lv_at hl 2 rfl) ?_
      refine bx_get fl_X11_ok (i := 49) rfl X hH k0 o22 (show decode cX11_lays 95 = .ok (.getfield 49, 3) by decide +kernel) ?_
      refine lv_iload_n X.1 X.2.1 (show decode cX11_lays 98 = .ok (.iload_n 2, 1) by decide +kernel) rfl (lv_at hl 0 rfl) ?_
      refine bx_iald X hH ⟨⟨by omega, by omega⟩, p12⟩ (j := 5 * k) (rfl) (by omega) (by decide) (show decode cX11_lays 99 = .ok (.iaload, 1) by decide +kernel) ?_
      refine lv_iconst (v := 2) X.1 X.2.1 (show decode cX11_lays 100 = .ok (.iconst 2, 1) by decide +kernel) (by decide) ?_
      refine lv_icmp_ne (tgt := 111) X.1 X.2.1 (show decode cX11_lays 101 = .ok (.if_icmp .ne 10, 3) by decide +kernel) (by decide) (fun z2 => ?n2) (fun z2 => ?m2)
      case m2 =>
        rw [z2] at c0
        have c00 : cv f1 (lo + 12) (5 * k) = 2 := by rw [← c0]; rfl
        refine lv_aload_n X.1 X.2.1 (show decode cX11_lays 104 = .ok (.aload_n 0, 1) by decide +kernel) rfl (lv_at hl 2 rfl) ?_
        refine z_callV (Y := Yl3) (n := 17) (idx := 289) (na := 0) (b := lo) (As := []) (rest := []) X hH (MetZ.ofX (Hl10 l (xte El f1 t) D t lo (twxl hG)) (ent_of (zs := [0]) rfl (by rw [V_goe]; exact VB_set vb11 trl_6 ⟨by obtain ⟨i2, b1, b2, b3, b4⟩ := VB_at v1 trl_6 (show VLg[6]? = some (pI 0 40) from rfl); omega, by omega⟩) ⟨⟨⟨lo, rfl, hxB⟩, rfl⟩, trivial⟩ rfl) v2 v3) k0 (rfl : vwCl[11]? = some _) mw_1625 mw_1627 ms_71 mw_12 mw_1628 (by decide +kernel) ⟨by decide, by decide⟩ ⟨Nat.le_refl _, Nat.le_refl _⟩ hl.1 rfl rfl (by decide) (show decode cX11_lays 105 = .ok (.invokevirtual 289, 3) by decide +kernel) (fun ov f2 hz H2 locs2 hH2 => ?_)
        obtain ⟨o, ho, hO, hT2, hF2⟩ := hz
        have hb := List.all_eq_true.mp goe_all o ho
        simp only [Bool.and_eq_true, decide_eq_true_eq] at hb
        obtain ⟨⟨⟨⟨b1, b2⟩, b3⟩, b4⟩, b5⟩ := hb
        cases OOK_none hO b5
        refine lv_goto (tgt := 130) X.1 X.2.1 (show decode cX11_lays 108 = .ok (.goto 22, 3) by decide +kernel) (by decide) ?_
        refine tail f2 H2 locs2 ls (LINV_keep hI hO b1 b4 (fun j hj => by simpa using hj) hT2 hF2.2 ?_ ?_ (by omega)) hH2 hl
        · obtain ⟨i, a1, a2, a3⟩ := out_num hO trl_6 b2 (cvs_at (zs := [0]) trl_6)
          obtain ⟨i2, b1, b2, b3, b4⟩ := VB_at v1 trl_6 (show VLg[6]? = some (pI 0 40) from rfl)
          exact ⟨i, a1, by omega, by omega, by omega⟩
        · obtain ⟨i, a1, a2, a3, a4⟩ := out_box hO trl_7 b3
          exact ⟨i, a1, a3, a4⟩
      have c03 : cv f1 (lo + 12) (5 * k) ≠ 1 := fun h => z1 (Int32.toInt_inj.mp (by rw [c0, h]; rfl))
      have c02 : cv f1 (lo + 12) (5 * k) ≠ 2 := fun h => z2 (Int32.toInt_inj.mp (by rw [c0, h]; rfl))
      have c01 : cv f1 (lo + 12) (5 * k) ≠ 0 := fun h => z0 (Int32.toInt_inj.mp (by rw [c0, h]; rfl))
      have hb9 := act.2.1 (Or.inr (by have := act.1; omega))
      rw [← c1] at hb9
      obtain ⟨fs2, y1, -, y3⟩ := typ_at v2 (i := 0) (k := 0) rfl (rfl : El.1[0]? = some _)
      rw [show lo + 0 = lo from rfl, o0] at y1
      cases y1
      obtain ⟨_, o26, cr, rfl, cr1, cr2⟩ := y3 26 (tI 0 1023) rfl
      refine lv_aload_n X.1 X.2.1 (show decode cX11_lays 111 = .ok (.aload_n 0, 1) by decide +kernel) rfl (lv_at hl 2 rfl) ?_
      refine lv_dup X.1 X.2.1 (show decode cX11_lays 112 = .ok (.dup, 1) by decide +kernel) rfl ?_
      refine bx_get fl_X11_ok (i := 252) rfl X hH k0 o26 (show decode cX11_lays 113 = .ok (.getfield 252, 3) by decide +kernel) ?_
      refine lv_iconst (v := 1) X.1 X.2.1 (show decode cX11_lays 116 = .ok (.iconst 1, 1) by decide +kernel) (by decide) ?_
      refine lv_aload_n X.1 X.2.1 (show decode cX11_lays 117 = .ok (.aload_n 0, 1) by decide +kernel) rfl (lv_at hl 2 rfl) ?_
      refine bx_get fl_X11_ok (i := 49) rfl X hH k0 o22 (show decode cX11_lays 118 = .ok (.getfield 49, 3) by decide +kernel) ?_
      refine lv_iload_n X.1 X.2.1 (show decode cX11_lays 121 = .ok (.iload_n 2, 1) by decide +kernel) rfl (lv_at hl 0 rfl) ?_
      refine lv_iconst (v := 1) X.1 X.2.1 (show decode cX11_lays 122 = .ok (.iconst 1, 1) by decide +kernel) (by decide) ?_
      refine lv_iadd X.1 X.2.1 (show decode cX11_lays 123 = .ok (.iadd, 1) by decide +kernel) ?_
      refine bx_iald X hH ⟨⟨by omega, by omega⟩, p12⟩ (j := 5 * k + 1) (nI_add _ 1) (by omega) (by decide) (show decode cX11_lays 124 = .ok (.iaload, 1) by decide +kernel) ?_
      refine lv_ishl X.1 X.2.1 (show decode cX11_lays 125 = .ok (.ishl, 1) by decide +kernel) ?_
      refine lv_ior X.1 X.2.1 (show decode cX11_lays 126 = .ok (.ior, 1) by decide +kernel) ?_
      refine bx_puti fl_X11_ok (i := 252) rfl X hH k0 (by omega) (show decode cX11_lays 127 = .ok (.putfield 252, 3) by decide +kernel) (fun H1 locs1 h1 => ?_)
      have I1 := LINV_put hI o0 (x := 26) (v := cr ||| (1 : Int32) <<< (ga (5 * k + 1) &&& 31)) (Or.inl ⟨rfl, crk_b cr1 cr2 hb9.1 hb9.2⟩)
      refine tail _ H1 locs1 ls ?_ h1 hl
      obtain ⟨w1, w2, w3, w4, w5, w6, w7⟩ := I1
      refine ⟨w1, w2, w3, w4, ?_, by omega, w7⟩
      rw [w5]
      simp only [casts, Nat.mul_zero, Nat.zero_add]
      rw [if_neg c03]
      omega
end
theorem c_lays (l : Launch) (D : va_G) (t : Nat → ClassId) (lo : Nat) {f1 : Nat → va_E} {N : Nat} (hG : GI lo f1) (hT : TYP El (xte El f1 t) t lo f1) (hV : VB El lo Ml24.2.1 f1) (hN : cv f1 (lo + 7) 12 = (N : Int)) (hN4 : N ≤ 40) : MetZ l Ym6 D t lo 17 f1 [.ref lo] (LZ t lo f1 N) := by
  refine MetZ.beg (by decide +kernel) (Nat.le_of_ble_eq_true rfl) ?_
  intro p e s m below meth c X hH ls hl
  have hl : lv_has ls 3 [(0, .ref lo)] := hl
  obtain ⟨fs, o0, o49, orf⟩ := typ_refs (xt := xte El f1 t) (typ_lm rfl hT)
  refine lv_aload_n X.1 X.2.1 (show decode cX11_lays 0 = .ok (.aload_n 0, 1) by decide +kernel) rfl (lv_at hl 0 rfl) ?_
  refine z_callV (Y := Yl15) (n := 17) (idx := 279) (na := 0) (b := lo) (As := []) (rest := []) X hH (MetZ.ofX (Hl24 l (xte El f1 t) D t lo (twxl hG)) (ent_of (zs := [0]) rfl hV ⟨⟨⟨lo, rfl, xB_of (i := 0) rfl (rfl : El.1[0]? = some _)⟩, rfl⟩, trivial⟩ rfl) hT gsame_rf) ⟨⟨by omega, by omega⟩, o0⟩ (rfl : vwCl[11]? = some _) mw_1594 mw_1596 ms_64 mw_12 mw_1597 (by decide +kernel) ⟨by decide, by decide⟩ ⟨Nat.le_refl _, Nat.le_refl _⟩ hl.1 rfl rfl (by decide) (show decode cX11_lays 1 = .ok (.invokevirtual 279, 3) by decide +kernel) (fun ov f2 hz H2 locs2 hH2 => ?_)
  obtain ⟨o, ho, hO, hT2, hF2⟩ := hz
  obtain ⟨rfl, I0⟩ := LINV_beg hV hO ho hT2 hF2.2
  refine lv_iconst (v := 0) X.1 X.2.1 (show decode cX11_lays 4 = .ok (.iconst 0, 1) by decide +kernel) (by decide) ?_
  refine lv_istore_n X.1 X.2.1 (show decode cX11_lays 5 = .ok (.istore_n 1, 1) by decide +kernel) rfl hl (by decide) rfl (fun ls hl => ?_)
  exact ly_loop X hG hN hN4 N 0 f2 H2 locs2 ls (by omega) (by omega) I0 hH2 hl
theorem trl_pre : ∀ j : Fin 33, El.2.2.2[(j : Nat)]? = Em.2.2.2[(j : Nat)]? := by decide +kernel
theorem trm_len : Em.2.2.2.length = 33 := by decide +kernel
theorem wr_lm : ∀ k : Fin 17, xwr Em (k : Nat) = none → xwr El (k : Nat) = none := by decide +kernel
theorem V_bg_33 : Ml24.2.1[33]? = some (pI 0 8) := by decide +kernel
theorem V_bg_is0 : ((List.range 10).all fun n => decide (Ml24.2.1[34 + n]? = some (pI (-1) 10000))) = true := by decide +kernel
theorem V_bg_pre0 : ((List.range 33).all fun n => decide (Ml24.2.1[n]? = Mm6.2.1[n]?)) = true := by decide +kernel
theorem V_bg_len : Ml24.2.1.length = 44 := by decide +kernel
/-- V inside lays, of V ahead of it -/
theorem VB_lm {xt : XX} {t : Nat → ClassId} {lo : Nat} {f : Nat → va_E} (hV : VB Em lo Mm6.2.1 f) (hT : TYP Em xt t lo f) (hG : GI lo f) : VB El lo Ml24.2.1 f := by
  intro j o k P hj hP
  have hlt : j < 44 := by rw [← trl_len]; exact (List.getElem?_eq_some_iff.mp hj).1
  by_cases c1 : j < 33
  · rw [trl_pre ⟨j, c1⟩] at hj
    rw [of_decide_eq_true (List.all_eq_true.mp V_bg_pre0 j (List.mem_range.mpr c1))] at hP
    exact hV j o k P hj hP
  · by_cases c2 : j = 33
    · subst c2
      cases (show (7, 6) = (o, k) from Option.some.inj hj)
      rw [V_bg_33] at hP
      cases hP
      obtain ⟨gh, p7, -, -⟩ := (cok_arr (by decide)).mp (typ_at hT (i := 7) (k := 7) rfl (rfl : Em.1[7]? = some _))
      obtain ⟨-, -, ⟨b1, b2, -⟩, -, -⟩ := hG.1 0 (by decide)
      rw [Nat.mul_zero, Nat.zero_add, cv_arr p7 (by decide)] at b1 b2
      exact ⟨gh 6, 0, 8, by rw [p7]; rfl, rfl, b1, b2⟩
    · obtain ⟨b, rfl⟩ : ∃ b, j = 34 + b := ⟨j - 34, by omega⟩
      have hb : b < 10 := by omega
      rw [trl_is ⟨b, hb⟩] at hj
      cases hj
      rw [of_decide_eq_true (List.all_eq_true.mp V_bg_is0 b (List.mem_range.mpr hb))] at hP
      cases hP
      obtain ⟨gi, p14, p14b, -⟩ := (cok_arr (by decide)).mp (typ_at hT (i := 14) (k := 14) rfl (rfl : Em.1[14]? = some _))
      have := p14b (6 * b) (by omega)
      refine ⟨gi (6 * b), -1, 10000, ?_, rfl, this.1, this.2⟩
      rw [p14]
      show (if 6 * b < 60 then some (Value.int (gi (6 * b))) else none) = _
      rw [if_pos (by omega)]
/-- what is kept, behind lays -/
theorem GI_lays {t : Nat → ClassId} {lo N : Nat} {f1 f2 : Nat → va_E} (hG : GI lo f1) (h : LINV t lo f1 N f2) : GI lo f2 := by
  obtain ⟨v1, v2, v3, v4, v5, v6, v7⟩ := h
  refine ⟨fun q hq => BK_congr hq (fun k hk hk2 => ?_) (fun k hk => gs_cv v3 rfl rfl ⟨(0, 1000), by decide, by omega, hk⟩) (fun k hk => gs_cv v3 rfl rfl ⟨(0, 192), by decide, by omega, hk⟩) (fun k hk => gs_cv v3 rfl rfl ⟨(0, 4), by decide, by omega, hk⟩) (hG.1 q hq), v7⟩
  rcases hk with q | q
  · exact gs_cv v3 rfl rfl ⟨(0, 2), by decide, by omega, q⟩
  · exact gs_cv v3 rfl rfl ⟨(3, 52), by decide, q, hk2⟩
theorem gs_kpt {E : XE} {lo : Nat} {f1 f : Nat → va_E} (h : gsame E lo f1 f) (a : E.2.1[13]? = some 13) {ps : List (Nat × Nat)} (c : xwr E 13 = some ps) (b : ∃ q ∈ ps, q = (0, 3)) : kpt (f (lo + 13)) = kpt (f1 (lo + 13)) := by
  obtain ⟨q, hq, rfl⟩ := b
  funext k
  unfold kpt
  by_cases c1 : k < 3
  · rw [if_pos c1, if_pos c1, h.1 13 13 k ps a c ⟨_, hq, Nat.zero_le _, c1⟩]
  · rw [if_neg c1, if_neg c1]
theorem kp_lays : keepx 1 (Mm6.2.2.1.headD ([], none, [], [])).2.2.1 [5, 6, 7] = true := by decide +kernel
theorem g_lays (X : XK3) (l : Launch) (D : va_G) (t : Nat → ClassId) (lo : Nat) : HOLDS l Em (xtm X t) D t lo Ym6 Mm6 := by
  refine HOLDS.ofZ (fun vs G0 f hE hT hX => ?_)
  obtain ⟨⟨hG, hb⟩, hx⟩ := hX
  have hV := VB_ent hE (by decide +kernel)
  obtain ⟨za, b1, hcv⟩ := ENT_cvs hE rfl
  have hvs : vs = [.ref lo] := by
    have hl1 : vs.length = 1 := (AOK_len b1).2
    have hl2 : za.length = 1 := (AOK_len b1).1
    match vs, hl1, za, hl2, b1 with
    | [v0], _, [z0], _, ⟨⟨⟨r, e0, q0⟩, _⟩, _⟩ =>
      subst e0
      obtain ⟨i, rfl, q3⟩ := xB_in q0 (rfl : Em.1[0]? = some _)
      cases kdm_eq q3
      rfl
  subst hvs
  obtain ⟨⟨n1, n2⟩, -⟩ := hG.1 0 (by decide)
  rw [Nat.mul_zero, Nat.zero_add] at n1 n2
  obtain ⟨N, hN⟩ : ∃ N : Nat, cv f (lo + 7) 12 = (N : Int) := ⟨(cv f (lo + 7) 12).toNat, by omega⟩
  refine MetZ.mono (c_lays l D t lo hG (typ_ml rfl hT) (VB_lm hV hT hG) hN (by omega)) (fun ov f2 hz => ?_)
  obtain ⟨rfl, I⟩ := hz
  have G2 := GI_lays hG I
  obtain ⟨v1, v2, v3, v4, v5, v6, v7⟩ := I
  refine ⟨_, List.mem_cons_self, ook_of rfl (box_of_ent hE rfl) trivial (fun j a k P hj hP => ?_) rfl, typ_lm rfl v2, fun i k a b => ?_, ⟨G2, ?_⟩, ?_⟩
  · have hlt : j < 33 := by rw [← trm_len]; exact (List.getElem?_eq_some_iff.mp hj).1
    have hj' : El.2.2.2[j]? = some (a, k) := by rw [trl_pre ⟨j, hlt⟩]; exact hj
    by_cases c5 : j = 5
    · subst c5
      cases hP
      obtain ⟨i, x1, x2, x3, x4⟩ := VB_at v1 hj' (show VLg[5]? = some (pI 0 10) from rfl)
      exact ⟨_, x1, i, rfl, x3, x4⟩
    · by_cases c6 : j = 6
      · subst c6
        cases hP
        obtain ⟨i, x1, x2, x3, x4⟩ := VB_at v1 hj' (show VLg[6]? = some (pI 0 40) from rfl)
        exact ⟨_, x1, i, rfl, x3, x4⟩
      · by_cases c7 : j = 7
        · subst c7
          cases hP
          obtain ⟨i, x1, x2, x3, x4⟩ := VB_at v1 hj' (show VLg[7]? = some (pI 0 9) from rfl)
          exact ⟨_, x1, i, rfl, x3, x4⟩
        · have hq := keepx_at kp_lays (j := j) (show j < 33 from hlt) (by simp only [List.mem_cons, List.not_mem_nil, or_false]; omega)
          rw [show (Mm6.2.2.1.headD ([], none, [], [])).2.2.1[j]? = some P from hP] at hq
          cases hq
          have hlen : j < VLg.length := by
            show j < (Ml24.2.1.set 6 (pI 0 40)).length
            rw [List.length_set, V_bg_len]
            omega
          obtain ⟨i, x, y, x1, x2, x3, x4⟩ := v1 j a k _ hj' (List.getElem?_eq_getElem hlen)
          refine ⟨_, x1, i, rfl, ?_⟩
          have e1 := cv_of x1
          simp only [gv] at e1
          have e2 := v4 j a k hlt c5 c6 c7 hj'
          have e3 := hcv j a k hj
          rw [show Mm6.1.length + j = 1 + j from rfl] at e3
          simp only [xval, e3, Option.map_some, Option.some.injEq]
          omega
  · have hlt : i < 17 := (List.getElem?_eq_some_iff.mp a).1
    have ei := kdm_eq a
    subst ei
    exact v3.2 i i a (wr_lm ⟨i, hlt⟩ b)
  · obtain ⟨i, x1, x2, x3, x4⟩ := VB_at v1 trl_5 (show VLg[5]? = some (pI 0 10) from rfl)
    rw [show lo + 0 = lo from rfl] at x2
    omega
  · rw [v3.2 2 2 rfl rfl, v3.2 3 3 rfl rfl, gs_kpt v3 rfl (rfl : xwr El 13 = some _) ⟨_, List.mem_cons_self, rfl⟩]
    exact hx
