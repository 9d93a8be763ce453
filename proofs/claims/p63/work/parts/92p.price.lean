/-! price, both sides, its answer -/

/-- the price of n at a trust w, as the machine reckons it -/
def prL (n : Int64) (w : Int32) : Int64 := n * (15 - w).toInt64 / 10
def prI (n w : Int32) : Int32 := if 0 ≤ n.toInt ∧ n.toInt ≤ 1000000 ∧ 0 ≤ w.toInt ∧ w.toInt ≤ 9 then (prL n.toInt64 w).toInt32 else -2
theorem q_X6_priceAt (l : Launch) (D : va_G) (t : Nat → ClassId) (lo n : Nat) (f : Nat → va_E) (v : Int64) (w : Int32) : MetM l yX6_priceAt cX6_priceAt 3 (some .long) 0 D t lo n f [.long v, .int w] f (some (.long (prL v w))) := by
  refine MetM.start (by decide +kernel) (Nat.le_of_ble_eq_true rfl) ?_
  intro p e s m below meth c X hH ls hl
  have hl : lv_has ls 3 [(0, .long v), (2, .int w)] := hl
  refine lv_lload_n X.1 X.2.1 (show decode cX6_priceAt 0 = .ok (.lload_n 0, 1) by decide +kernel) rfl (lv_at hl 0 rfl) ?_
  refine lv_bipush (v := 15) X.1 X.2.1 (show decode cX6_priceAt 1 = .ok (.bipush 15, 2) by decide +kernel) (by decide) ?_
  refine lv_iload_n X.1 X.2.1 (show decode cX6_priceAt 3 = .ok (.iload_n 2, 1) by decide +kernel) rfl (lv_at hl 1 rfl) ?_
  refine lv_isub X.1 X.2.1 (show decode cX6_priceAt 4 = .ok (.isub, 1) by decide +kernel) ?_
  refine lv_i2l X.1 X.2.1 (show decode cX6_priceAt 5 = .ok (.i2l, 1) by decide +kernel) rfl ?_
  refine lv_lmul X.1 X.2.1 (show decode cX6_priceAt 6 = .ok (.lmul, 1) by decide +kernel) ?_
  refine lv_ldc2 (v := 10) (own := RX6) X.1 X.2.1 X.2.2.2.1 (X.2.2.2.2.1 _ mw_745) (show decode cX6_priceAt 7 = .ok (.ldc2_w 56, 3) by decide +kernel) ?_
  refine lv_ldiv X.1 X.2.1 (show decode cX6_priceAt 10 = .ok (.ldiv, 1) by decide +kernel) (by decide) ?_
  exact px_lret X hH rfl (show decode cX6_priceAt 11 = .ok (.lreturn, 1) by decide +kernel)
theorem q_X11_priceOf (l : Launch) (D : va_G) (t : Nat → ClassId) (lo n : Nat) (f : Nat → va_E) (v : Int64) (w : Int32) : MetM l yX11_priceOf cX11_priceOf 3 (some .long) 0 D t lo n f [.long v, .int w] f (some (.long (prL v w))) := by
  refine MetM.start (by decide +kernel) (Nat.le_of_ble_eq_true rfl) ?_
  intro p e s m below meth c X hH ls hl
  have hl : lv_has ls 3 [(0, .long v), (2, .int w)] := hl
  refine lv_lload_n X.1 X.2.1 (show decode cX11_priceOf 0 = .ok (.lload_n 0, 1) by decide +kernel) rfl (lv_at hl 0 rfl) ?_
  refine lv_bipush (v := 15) X.1 X.2.1 (show decode cX11_priceOf 1 = .ok (.bipush 15, 2) by decide +kernel) (by decide) ?_
  refine lv_iload_n X.1 X.2.1 (show decode cX11_priceOf 3 = .ok (.iload_n 2, 1) by decide +kernel) rfl (lv_at hl 1 rfl) ?_
  refine lv_isub X.1 X.2.1 (show decode cX11_priceOf 4 = .ok (.isub, 1) by decide +kernel) ?_
  refine lv_i2l X.1 X.2.1 (show decode cX11_priceOf 5 = .ok (.i2l, 1) by decide +kernel) rfl ?_
  refine lv_lmul X.1 X.2.1 (show decode cX11_priceOf 6 = .ok (.lmul, 1) by decide +kernel) ?_
  refine lv_ldc2 (v := 10) (own := RX11) X.1 X.2.1 X.2.2.2.1 (X.2.2.2.2.1 _ mw_1636) (show decode cX11_priceOf 7 = .ok (.ldc2_w 311, 3) by decide +kernel) ?_
  refine lv_ldiv X.1 X.2.1 (show decode cX11_priceOf 10 = .ok (.ldiv, 1) by decide +kernel) (by decide) ?_
  exact px_lret X hH rfl (show decode cX11_priceOf 11 = .ok (.lreturn, 1) by decide +kernel)
abbrev PRC (b : Bool) (t : Nat → ClassId) (lo : Nat) (f : Nat → va_E) (n w : Int32) : Option Value → (Nat → va_E) → Prop := fun ov f2 => ov = some (.int (prI n w)) ∧ RTy 0 ov ∧ IC b t lo f2 ∧ KCL b lo f f2
abbrev PRM (t : Nat → ClassId) (lo : Nat) (f : Nat → va_E) (n w : Int32) : Option Value → (Nat → va_E) → Prop := fun ov f2 => ov = some (.int (prI n w)) ∧ RTy 0 ov ∧ IM t lo f2 ∧ KP lo f f2
theorem i64_in {k : Int32} {B : Int64} : ((0 : Int64) ≤ k.toInt64 ∧ k.toInt64 ≤ B) ↔ (0 ≤ k.toInt ∧ k.toInt ≤ B.toInt) := by
  rw [Int64.le_iff_toInt_le, Int64.le_iff_toInt_le, Int32.toInt_toInt64]
  exact Iff.rfl
theorem X_price (b : Bool) (l : Launch) (D : va_G) (t : Nat → ClassId) (lo : Nat) {f : Nat → va_E} (hI : IC b t lo f) (n w : Int32) : MetZ l Yc130 D t lo (Ec b).2.1.length f [.ref lo, .int n, .int w] (PRC b t lo f n w) := by
  refine MetZ.beg (by decide +kernel) (Nat.le_of_ble_eq_true rfl) ?_
  intro p e s m below meth c X hH ls hl
  have hl : lv_has ls 3 [(0, .ref lo), (1, .int n), (2, .int w)] := hl
  have z0 : (0 : Int32).toInt = 0 := rfl
  have z9 : (9 : Int32).toInt = 9 := rfl
  have zm : (1000000 : Int32).toInt = 1000000 := rfl
  have bad : ¬ (0 ≤ n.toInt ∧ n.toInt ≤ 1000000 ∧ 0 ≤ w.toInt ∧ w.toInt ≤ 9) → W p l e (px_rm Yc130.2.2.2.2) s m [Value.ref lo, Value.int n, Value.int w].toArray below meth c s.heap [] 0 0 (MQ below (QcZ D lo (Ec b).2.1.length (PRC b t lo f n w)) [Value.ref lo, Value.int n, Value.int w].toArray s 0 0 (px_A lo (Ec b).2.1.length)) (F0 m 20 ls []) := by
    intro h
    refine lv_bipush (v := (-2)) X.1 X.2.1 (show decode cX10_price 20 = .ok (.bipush (-2), 2) by decide +kernel) (by decide) ?_
    exact z_iret X hH ⟨by rw [prI, if_neg h], ⟨_, rfl⟩, hI, fun _ _ _ _ _ => rfl⟩ (show decode cX10_price 22 = .ok (.ireturn, 1) by decide +kernel)
  refine lv_iload_n X.1 X.2.1 (show decode cX10_price 0 = .ok (.iload_n 1, 1) by decide +kernel) rfl (lv_at hl 1 rfl) ?_
  refine lv_if_lt (tgt := 20) X.1 X.2.1 (show decode cX10_price 1 = .ok (.ifCond .lt 19, 3) by decide +kernel) (by decide) (fun h => bad (by have := Int32.lt_iff_toInt_lt.mp h; omega)) (fun h1 => ?_)
  refine lv_iload_n X.1 X.2.1 (show decode cX10_price 4 = .ok (.iload_n 1, 1) by decide +kernel) rfl (lv_at hl 1 rfl) ?_
  refine lv_ldc (v := 1000000) (own := RX10) X.1 X.2.1 X.2.2.2.1 (X.2.2.2.2.1 _ mw_741) (show decode cX10_price 5 = .ok (.ldc 218, 2) by decide +kernel) ?_
  refine lv_icmp_gt (tgt := 20) X.1 X.2.1 (show decode cX10_price 7 = .ok (.if_icmp .gt 13, 3) by decide +kernel) (by decide) (fun h => bad (by have := Int32.lt_iff_toInt_lt.mp h; omega)) (fun h2 => ?_)
  refine lv_iload_n X.1 X.2.1 (show decode cX10_price 10 = .ok (.iload_n 2, 1) by decide +kernel) rfl (lv_at hl 2 rfl) ?_
  refine lv_if_lt (tgt := 20) X.1 X.2.1 (show decode cX10_price 11 = .ok (.ifCond .lt 9, 3) by decide +kernel) (by decide) (fun h => bad (by have := Int32.lt_iff_toInt_lt.mp h; omega)) (fun h3 => ?_)
  refine lv_iload_n X.1 X.2.1 (show decode cX10_price 14 = .ok (.iload_n 2, 1) by decide +kernel) rfl (lv_at hl 2 rfl) ?_
  refine lv_bipush (v := 9) X.1 X.2.1 (show decode cX10_price 15 = .ok (.bipush 9, 2) by decide +kernel) (by decide) ?_
  refine lv_icmp_le (tgt := 23) X.1 X.2.1 (show decode cX10_price 17 = .ok (.if_icmp .le 6, 3) by decide +kernel) (by decide) (fun h4 => ?_) (fun h => bad (fun k => h (Int32.le_iff_toInt_le.mpr (by omega))))
  have g1 : ¬ n.toInt < (0 : Int32).toInt := fun q => h1 (Int32.lt_iff_toInt_lt.mpr q)
  have g2 : ¬ (1000000 : Int32).toInt < n.toInt := fun q => h2 (Int32.lt_iff_toInt_lt.mpr q)
  have g3 : ¬ w.toInt < (0 : Int32).toInt := fun q => h3 (Int32.lt_iff_toInt_lt.mpr q)
  have g4 := Int32.le_iff_toInt_le.mp h4
  refine lv_iload_n X.1 X.2.1 (show decode cX10_price 23 = .ok (.iload_n 1, 1) by decide +kernel) rfl (lv_at hl 1 rfl) ?_
  refine lv_i2l (v := n.toInt64) X.1 X.2.1 (show decode cX10_price 24 = .ok (.i2l, 1) by decide +kernel) rfl ?_
  refine lv_iload_n X.1 X.2.1 (show decode cX10_price 25 = .ok (.iload_n 2, 1) by decide +kernel) rfl (lv_at hl 2 rfl) ?_
  refine px_callS (k := 0) (idx := 219) (na := 2) (As := [.long n.toInt64, .int w]) (rest := []) X hH (q_X6_priceAt l D t lo _ f n.toInt64 w) mw_742 mw_743 mw_4 mw_744 (by decide +kernel) ⟨by decide, by decide⟩ ⟨Nat.le_refl _, Nat.le_refl _⟩ hl.1 rfl rfl (by decide) (show decode cX10_price 26 = .ok (.invokestatic 219, 3) by decide +kernel) (fun H2 locs2 hH _ => ?_)
  refine lv_l2i X.1 X.2.1 (show decode cX10_price 29 = .ok (.l2i, 1) by decide +kernel) rfl ?_
  exact z_iret X hH ⟨by rw [prI, if_pos (by omega)], ⟨_, rfl⟩, hI, fun _ _ _ _ _ => rfl⟩ (show decode cX10_price 30 = .ok (.ireturn, 1) by decide +kernel)
theorem T_price (l : Launch) (D : va_G) (t : Nat → ClassId) (lo : Nat) {f : Nat → va_E} (hI : IM t lo f) (n w : Int32) : MetZ l Ym86 D t lo 17 f [.ref lo, .int n, .int w] (PRM t lo f n w) := by
  obtain ⟨fs, o0, o49, orf⟩ := typ_refs hI.1
  obtain ⟨J, JK⟩ := IM_thr hI o0
  refine MetZ.beg (by decide +kernel) (Nat.le_of_ble_eq_true rfl) ?_
  intro p e s m below meth c X hH ls hl
  have hl : lv_has ls 3 [(0, .ref lo), (1, .int n), (2, .int w)] := hl
  refine lv_aload_n X.1 X.2.1 (show decode cX11_price 0 = .ok (.aload_n 0, 1) by decide +kernel) rfl (lv_at hl 0 rfl) ?_
  refine lv_iconst (v := 0) X.1 X.2.1 (show decode cX11_price 1 = .ok (.iconst 0, 1) by decide +kernel) (by decide) ?_
  refine bx_puti fl_X11_ok (i := 65) rfl X hH ⟨⟨by omega, by omega⟩, o0⟩ (by omega) (show decode cX11_price 2 = .ok (.putfield 65, 3) by decide +kernel) (fun H1 locs1 hH => ?_)
  generalize hf1 : va_up f lo (.inr (11, fs.set 0 (.int 0))) = f1 at hH J JK
  have bad : ¬ (0 ≤ n.toInt ∧ n.toInt ≤ 1000000 ∧ 0 ≤ w.toInt ∧ w.toInt ≤ 9) → ∀ (H : Heap) (locs : List Loc), HX D t lo 17 f1 (px_A lo 17) s H locs → W p l e (px_rm Ym86.2.2.2.2) s m [Value.ref lo, Value.int n, Value.int w].toArray below meth c H locs 0 0 (MQ below (QcZ D lo 17 (PRM t lo f n w)) [Value.ref lo, Value.int n, Value.int w].toArray s 0 0 (px_A lo 17)) (F0 m 39 ls []) := by
    intro h H locs hH
    refine lv_bipush (v := (-2)) X.1 X.2.1 (show decode cX11_price 39 = .ok (.bipush (-2), 2) by decide +kernel) (by decide) ?_
    exact z_iret X hH ⟨by rw [prI, if_neg h], ⟨_, rfl⟩, J, JK⟩ (show decode cX11_price 41 = .ok (.ireturn, 1) by decide +kernel)
  have e1 : (1000000 : Int64).toInt = 1000000 := rfl
  have e2 : (9 : Int64).toInt = 9 := rfl
  refine lv_iload_n X.1 X.2.1 (show decode cX11_price 5 = .ok (.iload_n 1, 1) by decide +kernel) rfl (lv_at hl 1 rfl) ?_
  refine lv_i2l (v := n.toInt64) X.1 X.2.1 (show decode cX11_price 6 = .ok (.i2l, 1) by decide +kernel) rfl ?_
  refine lv_lconst (v := 0) X.1 X.2.1 (show decode cX11_price 7 = .ok (.lconst 0, 1) by decide +kernel) rfl ?_
  refine lv_ldc2 (v := 1000000) (own := RX11) X.1 X.2.1 X.2.2.2.1 (X.2.2.2.2.1 _ mw_1707) (show decode cX11_price 8 = .ok (.ldc2_w 360, 3) by decide +kernel) ?_
  refine px_callS (k := 0) (idx := 70) (na := 3) (As := [.long n.toInt64, .long 0, .long 1000000]) (rest := []) X hH (c_in l D t lo 17 f1 n.toInt64 0 1000000) mw_1416 mw_1417 mw_12 mw_1418 (by decide +kernel) ⟨by decide, by decide⟩ ⟨Nat.le_refl _, Nat.le_refl _⟩ hl.1 rfl rfl (by decide) (show decode cX11_price 11 = .ok (.invokestatic 70, 3) by decide +kernel) (fun H2 locs2 hH _ => ?_)
  refine lv_if_eq (tgt := 39) X.1 X.2.1 (show decode cX11_price 14 = .ok (.ifCond .eq 25, 3) by decide +kernel) (by decide) (fun z => bad (fun q => ?_) _ _ hH) (fun z1 => ?_)
  · rw [if_pos (i64_in.mpr ⟨q.1, by omega⟩)] at z
    exact absurd z (by decide)
  refine lv_iload_n X.1 X.2.1 (show decode cX11_price 17 = .ok (.iload_n 2, 1) by decide +kernel) rfl (lv_at hl 2 rfl) ?_
  refine lv_i2l (v := w.toInt64) X.1 X.2.1 (show decode cX11_price 18 = .ok (.i2l, 1) by decide +kernel) rfl ?_
  refine lv_lconst (v := 0) X.1 X.2.1 (show decode cX11_price 19 = .ok (.lconst 0, 1) by decide +kernel) rfl ?_
  refine lv_ldc2 (v := 9) (own := RX11) X.1 X.2.1 X.2.2.2.1 (X.2.2.2.2.1 _ mw_1708) (show decode cX11_price 20 = .ok (.ldc2_w 362, 3) by decide +kernel) ?_
  refine px_callS (k := 0) (idx := 70) (na := 3) (As := [.long w.toInt64, .long 0, .long 9]) (rest := []) X hH (c_in l D t lo 17 f1 w.toInt64 0 9) mw_1416 mw_1417 mw_12 mw_1418 (by decide +kernel) ⟨by decide, by decide⟩ ⟨Nat.le_refl _, Nat.le_refl _⟩ hl.1 rfl rfl (by decide) (show decode cX11_price 23 = .ok (.invokestatic 70, 3) by decide +kernel) (fun H2 locs2 hH _ => ?_)
  refine lv_if_eq (tgt := 39) X.1 X.2.1 (show decode cX11_price 26 = .ok (.ifCond .eq 13, 3) by decide +kernel) (by decide) (fun z => bad (fun q => ?_) _ _ hH) (fun z2 => ?_)
  · rw [if_pos (i64_in.mpr ⟨q.2.2.1, by omega⟩)] at z
    exact absurd z (by decide)
  have g1 : 0 ≤ n.toInt ∧ n.toInt ≤ (1000000 : Int64).toInt := by
    by_cases h : (0 : Int64) ≤ n.toInt64 ∧ n.toInt64 ≤ 1000000
    · exact i64_in.mp h
    · rw [if_neg h] at z1; exact absurd rfl z1
  have g2 : 0 ≤ w.toInt ∧ w.toInt ≤ (9 : Int64).toInt := by
    by_cases h : (0 : Int64) ≤ w.toInt64 ∧ w.toInt64 ≤ 9
    · exact i64_in.mp h
    · rw [if_neg h] at z2; exact absurd rfl z2
  refine lv_iload_n X.1 X.2.1 (show decode cX11_price 29 = .ok (.iload_n 1, 1) by decide +kernel) rfl (lv_at hl 1 rfl) ?_
  refine lv_i2l (v := n.toInt64) X.1 X.2.1 (show decode cX11_price 30 = .ok (.i2l, 1) by decide +kernel) rfl ?_
  refine lv_iload_n X.1 X.2.1 (show decode cX11_price 31 = .ok (.iload_n 2, 1) by decide +kernel) rfl (lv_at hl 2 rfl) ?_
  refine px_callS (k := 0) (idx := 316) (na := 2) (As := [.long n.toInt64, .int w]) (rest := []) X hH (q_X11_priceOf l D t lo 17 f1 n.toInt64 w) mw_1633 mw_1634 mw_12 mw_1635 (by decide +kernel) ⟨by decide, by decide⟩ ⟨Nat.le_refl _, Nat.le_refl _⟩ hl.1 rfl rfl (by decide) (show decode cX11_price 32 = .ok (.invokestatic 316, 3) by decide +kernel) (fun H2 locs2 hH _ => ?_)
  refine lv_l2i X.1 X.2.1 (show decode cX11_price 35 = .ok (.l2i, 1) by decide +kernel) rfl ?_
  refine lv_goto (tgt := 41) X.1 X.2.1 (show decode cX11_price 36 = .ok (.goto 5, 3) by decide +kernel) (by decide) ?_
  exact z_iret X hH ⟨by rw [prI, if_pos (by omega)], ⟨_, rfl⟩, J, JK⟩ (show decode cX11_price 41 = .ok (.ireturn, 1) by decide +kernel)

