/-! image, back of the reference -/
theorem mw_1283 : Jvm.Cond.fieldLink "BellMoneyModel" (52 : Nat) "BellMoneyModel" "isKept" "[Z" ∈ Wd := List.mem_filter.mpr ⟨List.mem_of_getElem? (i := 1385) (by decide +kernel), by decide +kernel⟩
theorem fl_K_ok : FLok RX11 [(52, 11, 23, 4)] := FLok.cons ⟨RX11, TX11, 49, tyX11, rfl, iX11, tyX11_ok, nmX11, by decide, mw_1283, trivial⟩ FLok.nil
theorem trm_00 : ∀ j : Fin 33, Em.2.2.2[(j : Nat)]? ≠ some (0, 0) ∧ (Em.2.2.2[(j : Nat)]?.getD (0, 0)).1 ≠ 13 := by decide +kernel
theorem IM_thr {t : Nat → ClassId} {lo : Nat} {f : Nat → va_E} {fs : List Value} (hI : IM t lo f) (hf : f lo = .inr (11, fs)) : IM t lo (va_up f lo (.inr (11, fs.set 0 (.int 0)))) ∧ KP lo f (va_up f lo (.inr (11, fs.set 0 (.int 0)))) := by
  have e0 : ∀ o k' : Nat, ¬ (o = 0 ∧ k' = 0) → cellv (va_up f lo (.inr (11, fs.set 0 (.int 0))) (lo + o)) k' = cellv (f (lo + o)) k' := by
    intro o k' hne
    by_cases c : o = 0
    · subst c
      show cellv (va_up f lo _ lo) k' = cellv (f lo) k'
      rw [va_up_self, hf]
      show (fs.set 0 (.int 0))[k']? = fs[k']?
      rw [List.getElem?_set_ne (fun e => hne ⟨rfl, e.symm⟩)]
    · rw [va_up_ne _ _ (by omega)]
  have ec : ∀ o k' : Nat, ¬ (o = 0 ∧ k' = 0) → cv (va_up f lo (.inr (11, fs.set 0 (.int 0)))) (lo + o) k' = cv f (lo + o) k' := by
    intro o k' hne
    unfold cv
    rw [e0 o k' hne]
  have e24 := ec 0 24 (by omega)
  rw [show lo + 0 = lo from rfl] at e24
  refine ⟨⟨?_, GI_congr (fun k _ _ => ec 7 k (by omega)) (fun k _ => ec 12 k (by omega)) (fun k _ => ec 9 k (by omega)) (fun k _ => ec 6 k (by omega)) e24 (fun k _ => ec 14 k (by omega)) (IM_10 hI) hI.2.1, fun j o k P hj hP => ?_⟩, fun k _ => ec 1 k (by omega), fun k _ => ec 2 k (by omega), fun k _ => ec 13 k (by omega)⟩
  · obtain ⟨fs', e1, e2, e3⟩ := typ_at hI.1 (i := 0) (k := 0) rfl (rfl : Em.1[0]? = some _)
    rw [show lo + 0 = lo from rfl, hf] at e1
    cases e1
    refine TYP_up (i := 0) hI.1 rfl (rfl : Em.1[0]? = some _) ⟨_, rfl, by rw [List.length_set]; exact e2, fun q T hq => ?_⟩
    by_cases c : q = 0
    · subst c
      have hlt : 0 < fs.length := by
        have e2 : fs.length = 49 := e2
        omega
      refine ⟨.int 0, by rw [List.getElem?_set_self hlt], ?_⟩
      cases hq
      exact ⟨0, rfl, by decide, by decide⟩
    · rw [List.getElem?_set_ne (Ne.symm c)]
      exact e3 q T hq
  · have hlt : j < 33 := by rw [← trm_len]; exact (List.getElem?_eq_some_iff.mp hj).1
    rw [e0 o k (fun h => (trm_00 ⟨j, hlt⟩).1 (by obtain ⟨rfl, rfl⟩ := h; exact hj))]
    exact hI.2.2 j o k P hj hP
theorem IM_kp {t : Nat → ClassId} {lo : Nat} {f : Nat → va_E} {g : Nat → Int32} (hI : IM t lo f) (hg : ∀ i, i < 3 → 0 ≤ (g i).toInt ∧ (g i).toInt ≤ 1) : IM t lo (va_up f (lo + 13) (.inl (t 3, 3, .inl g))) := by
  have ec : ∀ o k' : Nat, o ≠ 13 → cv (va_up f (lo + 13) (.inl (t 3, 3, .inl g))) (lo + o) k' = cv f (lo + o) k' := by
    intro o k' hne
    unfold cv
    rw [va_up_ne _ _ (by omega)]
  have e24 := ec 0 24 (by omega)
  rw [show lo + 0 = lo from rfl] at e24
  refine ⟨TYP_up (i := 13) hI.1 rfl (rfl : Em.1[13]? = some _) ((cok_arr (by decide)).mpr ⟨g, rfl, hg, fun i b hb => by cases hb⟩), GI_congr (fun k _ _ => ec 7 k (by omega)) (fun k _ => ec 12 k (by omega)) (fun k _ => ec 9 k (by omega)) (fun k _ => ec 6 k (by omega)) e24 (fun k _ => ec 14 k (by omega)) (IM_10 hI) hI.2.1, fun j o k P hj hP => ?_⟩
  have hlt : j < 33 := by rw [← trm_len]; exact (List.getElem?_eq_some_iff.mp hj).1
  have := (trm_00 ⟨j, hlt⟩).2
  simp only [hj, Option.getD_some] at this
  rw [va_up_ne _ _ (by omega)]
  exact hI.2.2 j o k P hj hP
/-- the rows of a town, as functions -/
theorem typ_TR {xt : XX} {t : Nat → ClassId} {lo : Nat} {f : Nat → va_E} (hT : TYP Em xt t lo f) : ∃ gs : Nat → Nat → Int32, ∀ i z m, (i, z, m) ∈ TR → f (lo + i) = .inl (t 0, z, .inl (gs i)) := by
  obtain ⟨g6, p6, -⟩ := (cok_arr (by decide)).mp (typ_at hT (i := 6) (k := 6) rfl (rfl : Em.1[6]? = some _))
  obtain ⟨g7, p7, -⟩ := (cok_arr (by decide)).mp (typ_at hT (i := 7) (k := 7) rfl (rfl : Em.1[7]? = some _))
  obtain ⟨g8, p8, -⟩ := (cok_arr (by decide)).mp (typ_at hT (i := 8) (k := 8) rfl (rfl : Em.1[8]? = some _))
  obtain ⟨g9, p9, -⟩ := (cok_arr (by decide)).mp (typ_at hT (i := 9) (k := 9) rfl (rfl : Em.1[9]? = some _))
  obtain ⟨g10, p10, -⟩ := (cok_arr (by decide)).mp (typ_at hT (i := 10) (k := 10) rfl (rfl : Em.1[10]? = some _))
  obtain ⟨g11, p11, -⟩ := (cok_arr (by decide)).mp (typ_at hT (i := 11) (k := 11) rfl (rfl : Em.1[11]? = some _))
  obtain ⟨g12, p12, -⟩ := (cok_arr (by decide)).mp (typ_at hT (i := 12) (k := 12) rfl (rfl : Em.1[12]? = some _))
  refine ⟨fun i => if i = 6 then g6 else if i = 7 then g7 else if i = 8 then g8 else if i = 9 then g9 else if i = 10 then g10 else if i = 11 then g11 else g12, fun i z m h => ?_⟩
  simp only [TR, List.mem_cons, List.not_mem_nil, or_false, Prod.mk.injEq] at h
  rcases h with ⟨rfl, rfl, rfl⟩ | ⟨rfl, rfl, rfl⟩ | ⟨rfl, rfl, rfl⟩ | ⟨rfl, rfl, rfl⟩ | ⟨rfl, rfl, rfl⟩ | ⟨rfl, rfl, rfl⟩ | ⟨rfl, rfl, rfl⟩
  · exact p6
  · exact p7
  · exact p8
  · exact p9
  · exact p10
  · exact p11
  · exact p12
theorem in_k {k : Int32} {b : Nat} (hb : b < 100) (h : (0 : Int64) ≤ k.toInt64 ∧ k.toInt64 ≤ Int64.ofNat b) : ∃ K : Nat, K ≤ b ∧ k = nI K := by
  rw [Int64.le_iff_toInt_le, Int64.le_iff_toInt_le, Int32.toInt_toInt64] at h
  have e : (Int64.ofNat b).toInt = (b : Int) := Int64.toInt_ofNat_of_lt (by omega)
  rw [e, show (0 : Int64).toInt = 0 from rfl] at h
  exact ⟨k.toInt.toNat, by omega, toI (by omega) (by omega)⟩
theorem not_in_k {k : Int32} {b : Nat} (hb : b < 100) (h : ¬ ((0 : Int64) ≤ k.toInt64 ∧ k.toInt64 ≤ Int64.ofNat b)) : k.toInt < 0 ∨ (b : Int) < k.toInt := by
  rw [Int64.le_iff_toInt_le, Int64.le_iff_toInt_le, Int32.toInt_toInt64] at h
  have e : (Int64.ofNat b).toInt = (b : Int) := Int64.toInt_ofNat_of_lt (by omega)
  rw [e, show (0 : Int64).toInt = 0 from rfl] at h
  omega
abbrev Yimg : XY := (yX11_image, cX11_image, 2, some .int, 2)
abbrev Ybck : XY := (yX11_back, cX11_back, 2, some .int, 2)
/-- which answer, and what is kept then -/
abbrev IZ (t : Nat → ClassId) (lo : Nat) (f : Nat → va_E) (k : Int32) : Option Value → (Nat → va_E) → Prop := fun ov f2 => IM t lo f2 ∧ ((∀ q, q < 4 → cv f2 (lo + 1) q = cv f (lo + 1) q) ∧ ∀ q, q < 4 → cv f2 (lo + 2) q = cv f (lo + 2) q) ∧ ((∃ K : Nat, K < 3 ∧ k = nI K ∧ ov = some (.int 0) ∧ ∀ q, q < 3 → cv f2 (lo + 13) q = if q = K then 1 else cv f (lo + 13) q) ∨ ((k.toInt < 0 ∨ 2 < k.toInt) ∧ ov = some (.int (-2)) ∧ ∀ q, q < 3 → cv f2 (lo + 13) q = cv f (lo + 13) q))
abbrev BZ (t : Nat → ClassId) (lo : Nat) (f : Nat → va_E) (k : Int32) : Option Value → (Nat → va_E) → Prop := fun ov f2 => IM t lo f2 ∧ KP lo f f2 ∧ ((∃ K : Nat, K < 3 ∧ k = nI K ∧ ((ov = some (.int 0) ∧ cv f (lo + 13) K ≠ 0) ∨ (ov = some (.int (-6)) ∧ cv f (lo + 13) K = 0))) ∨ ((k.toInt < 0 ∨ 2 < k.toInt) ∧ ov = some (.int (-2))))
theorem R_image (l : Launch) (D : va_G) (t : Nat → ClassId) (lo : Nat) {f : Nat → va_E} (hI : IM t lo f) (k : Int32) : MetZ l Yimg D t lo 17 f [.ref lo, .int k] (IZ t lo f k) := by
  obtain ⟨fs, o0, o49, orf⟩ := typ_refs hI.1
  obtain ⟨J, JK⟩ := IM_thr hI o0
  refine MetZ.beg (by decide +kernel) (Nat.le_of_ble_eq_true rfl) ?_
  intro p e s m below meth c X hH ls hl
  have hl : lv_has ls 2 [(0, .ref lo), (1, .int k)] := hl
  refine lv_aload_n X.1 X.2.1 (show decode cX11_image 0 = .ok (.aload_n 0, 1) by decide +kernel) rfl (lv_at hl 0 rfl) ?_
  refine lv_iconst (v := 0) X.1 X.2.1 (show decode cX11_image 1 = .ok (.iconst 0, 1) by decide +kernel) (by decide) ?_
  refine bx_puti fl_X11_ok (i := 65) rfl X hH ⟨⟨by omega, by omega⟩, o0⟩ (by omega) (show decode cX11_image 2 = .ok (.putfield 65, 3) by decide +kernel) (fun H1 locs1 hH => ?_)
  generalize hf1 : va_up f lo (.inr (11, fs.set 0 (.int 0))) = f1 at hH J JK
  obtain ⟨fs1, r0, r49, rrf⟩ := typ_refs J.1
  refine lv_iload_n X.1 X.2.1 (show decode cX11_image 5 = .ok (.iload_n 1, 1) by decide +kernel) rfl (lv_at hl 1 rfl) ?_
  refine lv_i2l (v := k.toInt64) X.1 X.2.1 (show decode cX11_image 6 = .ok (.i2l, 1) by decide +kernel) rfl ?_
  refine lv_lconst (v := 0) X.1 X.2.1 (show decode cX11_image 7 = .ok (.lconst 0, 1) by decide +kernel) rfl ?_
  refine lv_ldc2 X.1 X.2.1 (own := RX11) X.2.2.2.1 (X.2.2.2.2.1 _ mw_1637) (show decode cX11_image 8 = .ok (.ldc2_w 325, 3) by decide +kernel) ?_
  refine px_callS (k := 0) (idx := 70) (na := 3) (As := [.long k.toInt64, .long 0, .long 2]) (rest := []) X hH (c_in l D t lo 17 f1 k.toInt64 0 2) mw_1416 mw_1417 mw_12 mw_1418 (by decide +kernel) ⟨by decide, by decide⟩ ⟨Nat.le_refl _, Nat.le_refl _⟩ hl.1 rfl rfl (by decide) (show decode cX11_image 11 = .ok (.invokestatic 70, 3) by decide +kernel) (fun H2 locs2 hH _ => ?_)
  refine lv_if_ne (tgt := 20) X.1 X.2.1 (show decode cX11_image 14 = .ok (.ifCond .ne 6, 3) by decide +kernel) (by decide) (fun z => ?_) (fun z => ?_)
  rotate_left
  · have hn : ¬ ((0 : Int64) ≤ k.toInt64 ∧ k.toInt64 ≤ Int64.ofNat 2) := fun h => by rw [if_pos (show (0 : Int64) ≤ k.toInt64 ∧ k.toInt64 ≤ 2 from h)] at z; exact absurd z (by decide)
    refine lv_bipush (v := (-2)) X.1 X.2.1 (show decode cX11_image 17 = .ok (.bipush (-2), 2) by decide +kernel) (by decide) ?_
    exact z_iret X hH ⟨J, ⟨JK.1, JK.2.1⟩, Or.inr ⟨not_in_k (by decide) hn, rfl, JK.2.2⟩⟩ (show decode cX11_image 19 = .ok (.ireturn, 1) by decide +kernel)
  have hy : (0 : Int64) ≤ k.toInt64 ∧ k.toInt64 ≤ Int64.ofNat 2 := by
    by_cases h : (0 : Int64) ≤ k.toInt64 ∧ k.toInt64 ≤ 2
    · exact h
    · rw [if_neg h] at z; exact absurd rfl z
  obtain ⟨K, hK, rfl⟩ := in_k (by decide) hy
  obtain ⟨gs, hgs⟩ := typ_TR J.1
  obtain ⟨g13, p13, p13b, -⟩ := (cok_arr (by decide)).mp (typ_at J.1 (i := 13) (k := 13) rfl (rfl : Em.1[13]? = some _))
  have k0 : px_at lo 17 f1 lo (.inr (11, fs1)) := ⟨⟨by omega, by omega⟩, r0⟩
  refine lv_aload_n X.1 X.2.1 (show decode cX11_image 20 = .ok (.aload_n 0, 1) by decide +kernel) rfl (lv_at hl 0 rfl) ?_
  refine lv_iconst (v := 0) X.1 X.2.1 (show decode cX11_image 21 = .ok (.iconst 0, 1) by decide +kernel) (by decide) ?_
  refine lv_iconst (v := 1) X.1 X.2.1 (show decode cX11_image 22 = .ok (.iconst 1, 1) by decide +kernel) (by decide) ?_
  refine lv_iload_n X.1 X.2.1 (show decode cX11_image 23 = .ok (.iload_n 1, 1) by decide +kernel) rfl (lv_at hl 1 rfl) ?_
  refine lv_iadd X.1 X.2.1 (show decode cX11_image 24 = .ok (.iadd, 1) by decide +kernel) ?_
  rw [show (1 : Int32) = nI 1 from rfl, nI_add]
  refine px_callV (k := 1) (idx := 239) (na := 2) (b := lo) (As := [.int (nI 0), .int (nI (1 + K))]) (rest := []) X hH (c_copyTown l D t lo 17 f1 gs r0 (rrf 16 6 ⟨_, rfl, rfl⟩ (by decide)) (rrf 17 7 ⟨_, rfl, rfl⟩ (by decide)) (rrf 18 8 ⟨_, rfl, rfl⟩ (by decide)) (rrf 19 9 ⟨_, rfl, rfl⟩ (by decide)) (rrf 20 10 ⟨_, rfl, rfl⟩ (by decide)) (rrf 21 11 ⟨_, rfl, rfl⟩ (by decide)) (rrf 22 12 ⟨_, rfl, rfl⟩ (by decide)) hgs (by decide) 0 (1 + K) (by omega) (by omega) (by omega)) k0 (rfl : vwCl[11]? = some _) mw_1567 mw_1569 ms_59 mw_12 mw_1570 (by decide +kernel) ⟨by decide, by decide⟩ ⟨Nat.le_refl _, Nat.le_refl _⟩ hl.1 rfl rfl (by decide) (show decode cX11_image 25 = .ok (.invokevirtual 239, 3) by decide +kernel) (fun H3 locs3 hH _ => ?_)
  obtain ⟨J2, JK2⟩ := IM_cp (a := 0) (b := 1 + K) J hgs (by omega) (by omega) (J.2.1.1 0 (by decide))
  refine lv_aload_n X.1 X.2.1 (show decode cX11_image 28 = .ok (.aload_n 0, 1) by decide +kernel) rfl (lv_at hl 0 rfl) ?_
  refine bx_get fl_K_ok (i := 52) rfl X hH ⟨⟨by omega, by omega⟩, by rw [cpT_off (by omega)]; exact r0⟩ (rrf 23 13 ⟨_, rfl, rfl⟩ (by decide)) (show decode cX11_image 29 = .ok (.getfield 52, 3) by decide +kernel) ?_
  refine lv_iload_n X.1 X.2.1 (show decode cX11_image 32 = .ok (.iload_n 1, 1) by decide +kernel) rfl (lv_at hl 1 rfl) ?_
  refine lv_iconst (v := 1) X.1 X.2.1 (show decode cX11_image 33 = .ok (.iconst 1, 1) by decide +kernel) (by decide) ?_
  refine px_zast2 X hH (g := g13) (z := 3) ⟨⟨by omega, by omega⟩, by rw [cpT_off (by omega)]; exact p13⟩ (nI_in (show K < 3 by omega) (by decide)) (show decode cX11_image 34 = .ok (.bastore, 1) by decide +kernel) (fun H4 locs4 hH => ?_)
  rw [nI_clamp (by omega)] at hH
  refine lv_iconst (v := 0) X.1 X.2.1 (show decode cX11_image 35 = .ok (.iconst 0, 1) by decide +kernel) (by decide) ?_
  have hv : vp_nar .boolean 1 = 1 := by decide +kernel
  rw [hv] at hH
  refine z_iret X hH ⟨IM_kp J2 (fun i hi => ?_), ⟨fun q hq => ?_, fun q hq => ?_⟩, Or.inl ⟨K, by omega, rfl, rfl, fun q hq => ?_⟩⟩ (show decode cX11_image 36 = .ok (.ireturn, 1) by decide +kernel)
  · unfold upd
    split
    · exact ⟨by decide, by decide⟩
    · exact p13b i hi
  · unfold cv; rw [va_up_ne _ _ (by omega)]; exact (JK2.1 q hq).trans (JK.1 q hq)
  · unfold cv; rw [va_up_ne _ _ (by omega)]; exact (JK2.2.1 q hq).trans (JK.2.1 q hq)
  · rw [cv_arr (va_up_self ..) hq]
    unfold upd
    by_cases c : q = K
    · rw [if_pos c, if_pos c]; rfl
    · rw [if_neg c, if_neg c, ← JK.2.2 q hq, cv_arr p13 hq]
theorem R_back (l : Launch) (D : va_G) (t : Nat → ClassId) (lo : Nat) {f : Nat → va_E} (hI : IM t lo f) (k : Int32) : MetZ l Ybck D t lo 17 f [.ref lo, .int k] (BZ t lo f k) := by
  obtain ⟨fs, o0, o49, orf⟩ := typ_refs hI.1
  obtain ⟨J, JK⟩ := IM_thr hI o0
  refine MetZ.beg (by decide +kernel) (Nat.le_of_ble_eq_true rfl) ?_
  intro p e s m below meth c X hH ls hl
  have hl : lv_has ls 2 [(0, .ref lo), (1, .int k)] := hl
  refine lv_aload_n X.1 X.2.1 (show decode cX11_back 0 = .ok (.aload_n 0, 1) by decide +kernel) rfl (lv_at hl 0 rfl) ?_
  refine lv_iconst (v := 0) X.1 X.2.1 (show decode cX11_back 1 = .ok (.iconst 0, 1) by decide +kernel) (by decide) ?_
  refine bx_puti fl_X11_ok (i := 65) rfl X hH ⟨⟨by omega, by omega⟩, o0⟩ (by omega) (show decode cX11_back 2 = .ok (.putfield 65, 3) by decide +kernel) (fun H1 locs1 hH => ?_)
  generalize hf1 : va_up f lo (.inr (11, fs.set 0 (.int 0))) = f1 at hH J JK
  obtain ⟨fs1, r0, r49, rrf⟩ := typ_refs J.1
  refine lv_iload_n X.1 X.2.1 (show decode cX11_back 5 = .ok (.iload_n 1, 1) by decide +kernel) rfl (lv_at hl 1 rfl) ?_
  refine lv_i2l (v := k.toInt64) X.1 X.2.1 (show decode cX11_back 6 = .ok (.i2l, 1) by decide +kernel) rfl ?_
  refine lv_lconst (v := 0) X.1 X.2.1 (show decode cX11_back 7 = .ok (.lconst 0, 1) by decide +kernel) rfl ?_
  refine lv_ldc2 X.1 X.2.1 (own := RX11) X.2.2.2.1 (X.2.2.2.2.1 _ mw_1637) (show decode cX11_back 8 = .ok (.ldc2_w 325, 3) by decide +kernel) ?_
  refine px_callS (k := 0) (idx := 70) (na := 3) (As := [.long k.toInt64, .long 0, .long 2]) (rest := []) X hH (c_in l D t lo 17 f1 k.toInt64 0 2) mw_1416 mw_1417 mw_12 mw_1418 (by decide +kernel) ⟨by decide, by decide⟩ ⟨Nat.le_refl _, Nat.le_refl _⟩ hl.1 rfl rfl (by decide) (show decode cX11_back 11 = .ok (.invokestatic 70, 3) by decide +kernel) (fun H2 locs2 hH _ => ?_)
  refine lv_if_ne (tgt := 20) X.1 X.2.1 (show decode cX11_back 14 = .ok (.ifCond .ne 6, 3) by decide +kernel) (by decide) (fun z => ?_) (fun z => ?_)
  rotate_left
  · have hn : ¬ ((0 : Int64) ≤ k.toInt64 ∧ k.toInt64 ≤ Int64.ofNat 2) := fun h => by rw [if_pos (show (0 : Int64) ≤ k.toInt64 ∧ k.toInt64 ≤ 2 from h)] at z; exact absurd z (by decide)
    refine lv_bipush (v := (-2)) X.1 X.2.1 (show decode cX11_back 17 = .ok (.bipush (-2), 2) by decide +kernel) (by decide) ?_
    exact z_iret X hH ⟨J, JK, Or.inr ⟨not_in_k (by decide) hn, rfl⟩⟩ (show decode cX11_back 19 = .ok (.ireturn, 1) by decide +kernel)
  have hy : (0 : Int64) ≤ k.toInt64 ∧ k.toInt64 ≤ Int64.ofNat 2 := by
    by_cases h : (0 : Int64) ≤ k.toInt64 ∧ k.toInt64 ≤ 2
    · exact h
    · rw [if_neg h] at z; exact absurd rfl z
  obtain ⟨K, hK, rfl⟩ := in_k (by decide) hy
  obtain ⟨gs, hgs⟩ := typ_TR J.1
  obtain ⟨g13, p13, p13b, -⟩ := (cok_arr (by decide)).mp (typ_at J.1 (i := 13) (k := 13) rfl (rfl : Em.1[13]? = some _))
  have k0 : px_at lo 17 f1 lo (.inr (11, fs1)) := ⟨⟨by omega, by omega⟩, r0⟩
  refine lv_aload_n X.1 X.2.1 (show decode cX11_back 20 = .ok (.aload_n 0, 1) by decide +kernel) rfl (lv_at hl 0 rfl) ?_
  refine bx_get fl_K_ok (i := 52) rfl X hH k0 (rrf 23 13 ⟨_, rfl, rfl⟩ (by decide)) (show decode cX11_back 21 = .ok (.getfield 52, 3) by decide +kernel) ?_
  refine lv_iload_n X.1 X.2.1 (show decode cX11_back 24 = .ok (.iload_n 1, 1) by decide +kernel) rfl (lv_at hl 1 rfl) ?_
  refine px_zald X hH (g := g13) (z := 3) ⟨⟨by omega, by omega⟩, p13⟩ (nI_in (show K < 3 by omega) (by decide)) (show decode cX11_back 25 = .ok (.baload, 1) by decide +kernel) ?_
  rw [nI_clamp (by omega)]
  have ek : cv f (lo + 13) K = (g13 K).toInt := by rw [← JK.2.2 K (by omega), cv_arr p13 (by omega)]
  refine lv_if_ne (tgt := 32) X.1 X.2.1 (show decode cX11_back 26 = .ok (.ifCond .ne 6, 3) by decide +kernel) (by decide) (fun z2 => ?_) (fun z2 => ?_)
  rotate_left
  · refine lv_bipush (v := (-6)) X.1 X.2.1 (show decode cX11_back 29 = .ok (.bipush (-6), 2) by decide +kernel) (by decide) ?_
    exact z_iret X hH ⟨J, JK, Or.inl ⟨K, by omega, rfl, Or.inr ⟨rfl, by rw [ek, z2]; rfl⟩⟩⟩ (show decode cX11_back 31 = .ok (.ireturn, 1) by decide +kernel)
  refine lv_aload_n X.1 X.2.1 (show decode cX11_back 32 = .ok (.aload_n 0, 1) by decide +kernel) rfl (lv_at hl 0 rfl) ?_
  refine lv_iconst (v := 1) X.1 X.2.1 (show decode cX11_back 33 = .ok (.iconst 1, 1) by decide +kernel) (by decide) ?_
  refine lv_iload_n X.1 X.2.1 (show decode cX11_back 34 = .ok (.iload_n 1, 1) by decide +kernel) rfl (lv_at hl 1 rfl) ?_
  refine lv_iadd X.1 X.2.1 (show decode cX11_back 35 = .ok (.iadd, 1) by decide +kernel) ?_
  refine lv_iconst (v := 0) X.1 X.2.1 (show decode cX11_back 36 = .ok (.iconst 0, 1) by decide +kernel) (by decide) ?_
  rw [show (1 : Int32) = nI 1 from rfl, nI_add]
  refine px_callV (k := 1) (idx := 239) (na := 2) (b := lo) (As := [.int (nI (1 + K)), .int (nI 0)]) (rest := []) X hH (c_copyTown l D t lo 17 f1 gs r0 (rrf 16 6 ⟨_, rfl, rfl⟩ (by decide)) (rrf 17 7 ⟨_, rfl, rfl⟩ (by decide)) (rrf 18 8 ⟨_, rfl, rfl⟩ (by decide)) (rrf 19 9 ⟨_, rfl, rfl⟩ (by decide)) (rrf 20 10 ⟨_, rfl, rfl⟩ (by decide)) (rrf 21 11 ⟨_, rfl, rfl⟩ (by decide)) (rrf 22 12 ⟨_, rfl, rfl⟩ (by decide)) hgs (by decide) (1 + K) 0 (by omega) (by omega) (by omega)) k0 (rfl : vwCl[11]? = some _) mw_1567 mw_1569 ms_59 mw_12 mw_1570 (by decide +kernel) ⟨by decide, by decide⟩ ⟨Nat.le_refl _, Nat.le_refl _⟩ hl.1 rfl rfl (by decide) (show decode cX11_back 37 = .ok (.invokevirtual 239, 3) by decide +kernel) (fun H3 locs3 hH _ => ?_)
  obtain ⟨J2, JK2⟩ := IM_cp (a := 1 + K) (b := 0) J hgs (by omega) (by omega) (J.2.1.1 (1 + K) (by omega))
  refine lv_iconst (v := 0) X.1 X.2.1 (show decode cX11_back 40 = .ok (.iconst 0, 1) by decide +kernel) (by decide) ?_
  exact z_iret X hH ⟨J2, ⟨fun q hq => (JK2.1 q hq).trans (JK.1 q hq), fun q hq => (JK2.2.1 q hq).trans (JK.2.1 q hq), fun q hq => (JK2.2.2 q hq).trans (JK.2.2 q hq)⟩, Or.inl ⟨K, by omega, rfl, Or.inl ⟨rfl, fun h => z2 (Int32.toInt_inj.mp (by rw [← ek, h]; rfl))⟩⟩⟩ (show decode cX11_back 41 = .ok (.ireturn, 1) by decide +kernel)
