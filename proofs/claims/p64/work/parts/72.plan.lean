/-! plan of the reference -/
def VPp : List XP := (Mm6.2.1.set 6 (pI 0 40)).set 11 (pI 1 1401)
abbrev NZ (t : Nat → ClassId) (lo : Nat) (f : Nat → va_E) : Option Value → (Nat → va_E) → Prop := fun ov f2 => ov = none ∧ IM t lo f2 ∧ KP lo f f2
theorem plz {l : Launch} {D : va_G} {t : Nat → ClassId} {lo s : Nat} {f : Nat → va_E} {M : XM} (hI : IM t lo f) (h1 : 1 ≤ cv f (lo + 6) 0) (h2 : cv f (lo + 0) 27 ≤ 40) (h3 : PLc s (f (lo + 2)) (f (lo + 3))) (H : HOLDS l Em (xtm (PL s (kpt (f (lo + 13)))) t) D t lo Yplans M) (hV : M.2.1 = VPp) (hr : M.2.2.2 = []) (hA : M.1 = [pR 0, pI s s]) (hs : s < 4) (hx : M.2.2.1.all (fun o => exL o Mm6.2.1 o.2.2.1 && o.2.1.isNone) = true) : MetZ l Yplans D t lo 17 f [.ref lo, .int (nI s)] (NZ t lo f) := by
  have hxB : xB Em lo (xtm (PL s (kpt (f (lo + 13)))) t) 0 lo := xB_of (i := 0) rfl (rfl : Em.1[0]? = some _)
  have hVm : VB Em lo M.2.1 f := by
    rw [hV]
    obtain ⟨i, a1, a2, a3, a4⟩ := VB_at hI.2.2 (show Em.2.2.2[6]? = some (0, 27) from rfl) (show Mm6.2.1[6]? = some (pI 0 60) from rfl)
    obtain ⟨i', b1, b2, b3, b4⟩ := VB_at hI.2.2 (show Em.2.2.2[11]? = some (6, 0) from rfl) (show Mm6.2.1[11]? = some (pI 0 1401) from rfl)
    exact VB_set (VB_set hI.2.2 (show Em.2.2.2[6]? = some (0, 27) from rfl) ⟨by omega, h2⟩) (show Em.2.2.2[11]? = some (6, 0) from rfl) ⟨h1, by omega⟩
  have hl : Em.2.2.2.length = M.2.1.length := by rw [hV]; rfl
  have es : (nI s).toInt = (s : Int) := nI_toInt (by omega)
  have ha : AOK (xB Em lo (xtm (PL s (kpt (f (lo + 13)))) t)) M.1 [.ref lo, .int (nI s)] [0, (s : Int)] := by
    rw [hA]
    exact ⟨⟨⟨lo, rfl, hxB⟩, rfl⟩, ⟨nI s, rfl, es, Int.le_refl _, Int.le_refl _⟩, trivial⟩
  refine MetZ.mono (MetZ.ofX H (ent_of hl hVm ha hr) hI.1 ⟨⟨hI.2.1, IM_10 hI⟩, h3, rfl⟩) (fun ov f2 hz => ?_)
  obtain ⟨o, ho, hO, hT, hF⟩ := hz
  have hb := List.all_eq_true.mp hx o ho
  rw [Bool.and_eq_true] at hb
  obtain ⟨⟨⟨G, -⟩, -, x3⟩, -⟩ := And.intro hF.2 trivial
  refine ⟨OOK_none hO hb.2, ⟨hT, G, VB_exit hO hb.1⟩, fun k _ => ?_, fun k _ => ?_, fun k hk => ?_⟩
  · unfold cv
    rw [hF.1 1 1 rfl rfl]
  · unfold cv
    rw [hF.1 2 2 rfl rfl]
  · have := congrFun x3 k
    unfold kpt at this
    rw [if_pos hk, if_pos hk] at this
    unfold cv
    rw [this]
theorem c_plans (l : Launch) (D : va_G) (t : Nat → ClassId) (lo s : Nat) {f : Nat → va_E} (hs : s < 4) (hI : IM t lo f) (h1 : 1 ≤ cv f (lo + 6) 0) (h2 : cv f (lo + 0) 27 ≤ 40) (h3 : PLc s (f (lo + 2)) (f (lo + 3))) : MetZ l Yplans D t lo 17 f [.ref lo, .int (nI s)] (NZ t lo f) := by
  match s, hs, h3 with
  | 0, _, h3 => exact plz hI h1 h2 h3 (H_pl0 _ l D t lo) (by decide +kernel) rfl rfl (by decide) (by decide +kernel)
  | 1, _, h3 => exact plz hI h1 h2 h3 (H_pl1 _ l D t lo) (by decide +kernel) rfl rfl (by decide) (by decide +kernel)
  | 2, _, h3 => exact plz hI h1 h2 h3 (H_pl2 _ l D t lo) (by decide +kernel) rfl rfl (by decide) (by decide +kernel)
  | 3, _, h3 => exact plz hI h1 h2 h3 (H_pl3 _ l D t lo) (by decide +kernel) rfl rfl (by decide) (by decide +kernel)
def LP3 : List XP := [pR 0, pI (-2147483648) 2147483647, pI (-2147483648) 2147483647]
def P_plan (y : XC) : Bool := (Nat.beq y.1 76 || Nat.beq y.1 81 || Nat.beq y.1 87 || Nat.beq y.1 92 || Nat.beq y.1 98 || Nat.beq y.1 104) && y.2.2.2.1.isEmpty && isR 0 (xget y.2.2.1 0) && vin y.2.1 y.2.2.2.2 Mm6.2.1
abbrev g_plan : XG := ((q_X11X, fl_X11X, ml_X11X, ac_X11X), (4, 11), (depx, []))
theorem run_plan : xrunN Ex g_plan ([], [], [], []) 9 cX11_plan [] [] P_plan none 9 (pt 40 Mm6.2.1 LP3) = true := by decide +kernel
abbrev Yplan : XY := (yX11_plan, cX11_plan, 4, some .long, 11)
theorem RTy_l {v : Int64} : RTy 2 (some (.long v)) := ⟨v, rfl⟩
theorem R_plan (l : Launch) (D : va_G) (t : Nat → ClassId) (lo : Nat) {f : Nat → va_E} (hI : IM t lo f) (k q : Int32) : MetZ l Yplan D t lo 17 f [.ref lo, .int k, .int q] (PZ 2 t lo f) := by
  obtain ⟨fs, o0, o49, orf⟩ := typ_refs hI.1
  obtain ⟨J, JK⟩ := IM_thr hI o0
  refine MetZ.beg (by decide +kernel) (Nat.le_of_ble_eq_true rfl) ?_
  intro p e s0 m below meth c X hH ls hl
  have hl : lv_has ls 4 [(0, .ref lo), (1, .int k), (2, .int q)] := hl
  refine lv_aload_n X.1 X.2.1 (show decode cX11_plan 0 = .ok (.aload_n 0, 1) by decide +kernel) rfl (lv_at hl 0 rfl) ?_
  refine lv_iconst (v := 0) X.1 X.2.1 (show decode cX11_plan 1 = .ok (.iconst 0, 1) by decide +kernel) (by decide) ?_
  refine bx_puti fl_X11_ok (i := 65) rfl X hH ⟨⟨by omega, by omega⟩, o0⟩ (by omega) (show decode cX11_plan 2 = .ok (.putfield 65, 3) by decide +kernel) (fun H1 locs1 hH => ?_)
  generalize hf1 : va_up f lo (.inr (11, fs.set 0 (.int 0))) = f1 at hH J JK
  obtain ⟨fs1, r0, r49, rrf⟩ := typ_refs J.1
  have k0 : px_at lo 17 f1 lo (.inr (11, fs1)) := ⟨⟨by omega, by omega⟩, r0⟩
  have join : ∀ (r : Int32) (f2 : Nat → va_E) (H2 : Heap) (locs2 : List Loc), IM t lo f2 → KP lo f f2 → (r = 0 → ∃ s, s < 4 ∧ k = nI s ∧ 1 ≤ cv f2 (lo + 6) 0 ∧ cv f2 (lo + 0) 27 ≤ 40 ∧ PLc s (f2 (lo + 2)) (f2 (lo + 3))) → HX D t lo 17 f2 (px_A lo 17) s0 H2 locs2 → W p l e (px_rm 11) s0 m [Value.ref lo, .int k, .int q].toArray below meth c H2 locs2 0 0 (MQ below (QcZ D lo 17 (PZ 2 t lo f)) [Value.ref lo, .int k, .int q].toArray s0 0 0 (px_A lo 17)) (F0 m 27 ls [.int r]) := by
    intro r f2 H2 locs2 J2 K2 hr hH
    refine lv_istore_n X.1 X.2.1 (show decode cX11_plan 27 = .ok (.istore_n 3, 1) by decide +kernel) rfl hl (by decide) rfl (fun ls hl => ?_)
    have hl : lv_has ls 4 [(3, .int r), (0, .ref lo), (1, .int k), (2, .int q)] := hl
    refine lv_iload_n X.1 X.2.1 (show decode cX11_plan 28 = .ok (.iload_n 3, 1) by decide +kernel) rfl (lv_at hl 0 rfl) ?_
    refine lv_if_eq (tgt := 35) X.1 X.2.1 (show decode cX11_plan 29 = .ok (.ifCond .eq 6, 3) by decide +kernel) (by decide) (fun z => ?_) (fun z => ?_)
    rotate_left
    · refine lv_iload_n X.1 X.2.1 (show decode cX11_plan 32 = .ok (.iload_n 3, 1) by decide +kernel) rfl (lv_at hl 0 rfl) ?_
      refine lv_i2l (v := r.toInt64) X.1 X.2.1 (show decode cX11_plan 33 = .ok (.i2l, 1) by decide +kernel) rfl ?_
      exact z_lret X hH ⟨RTy_l, J2, K2⟩ (show decode cX11_plan 34 = .ok (.lreturn, 1) by decide +kernel)
    obtain ⟨s, hs, ek, h1, h2, h3⟩ := hr z
    obtain ⟨fs2, r2, -, -⟩ := typ_refs J2.1
    refine lv_aload_n X.1 X.2.1 (show decode cX11_plan 35 = .ok (.aload_n 0, 1) by decide +kernel) rfl (lv_at hl 1 rfl) ?_
    refine lv_iload_n X.1 X.2.1 (show decode cX11_plan 36 = .ok (.iload_n 1, 1) by decide +kernel) rfl (lv_at hl 2 rfl) ?_
    refine z_callV (Y := Yplans) (n := 17) (idx := 385) (na := 1) (b := lo) (As := [.int k]) (rest := []) X hH (by rw [ek]; exact c_plans l D t lo s hs J2 h1 h2 h3) ⟨⟨by omega, by omega⟩, r2⟩ (rfl : vwCl[11]? = some _) mw_1757 mw_1759 ms_82 mw_12 mw_1760 (by decide +kernel) ⟨by decide, by decide⟩ ⟨Nat.le_refl _, Nat.le_refl _⟩ hl.1 rfl rfl (by decide) (show decode cX11_plan 37 = .ok (.invokevirtual 385, 3) by decide +kernel) (fun ov f3 hz H3 locs3 hH3 => ?_)
    obtain ⟨rfl, J3, K3⟩ := hz
    have hw3 := twxx (t := t) J3.2.1 (IM_10 J3)
    have hxB3 : xB Ex lo (xte Ex f3 t) 0 lo := xB_of (i := 0) rfl (rfl : Ex.1[0]? = some _)
    refine segGO (g := g_plan) (fuel := 9) (x := pt 40 Mm6.2.1 LP3) (E := Ex) (xt := xte Ex f3 t) (G0 := cvs Ex lo f3 ++ [0, k.toInt, q.toInt]) (f0 := f3) (A := px_A lo 17) (ys := ysx) X ⟨hw3, q_X11X_ok, fl_X11X_ok, ml_X11X_ok, ac_X11X_ok, depx_ok, fun _ h => absurd h List.not_mem_nil⟩ rfl ⟨Nat.le_refl _, Nat.le_refl _⟩ ⟨Nat.le_refl _, Nat.le_refl _⟩ run_plan (fun y hy => ?_) H3 locs3 ls [] (SAT_pt (LP := LP3) (vs := [.ref lo, .int k, .int q]) rfl J3.2.2 (show AOK (xB Ex lo (xte Ex f3 t)) [pR 0, pI (-2147483648) 2147483647, pI (-2147483648) 2147483647] [.ref lo, .int k, .int q] [0, k.toInt, q.toInt] from ⟨⟨⟨lo, rfl, hxB3⟩, rfl⟩, ⟨k, rfl, rfl, Int32.le_toInt k, Int32.toInt_le k⟩, ⟨q, rfl, rfl, Int32.le_toInt q, Int32.toInt_le q⟩, trivial⟩) (lv_less hl (fun z hz => List.mem_cons_of_mem _ hz)) (TYP_strip rfl Ex_ks.symm rfl J3.1) ⟨fun _ _ _ _ => rfl, gsame_rf⟩ hH3)
    intro H4 locs4 ls4 st4 hs4
    obtain ⟨Gs4, f4, lv4, -, hg4, hl4, hL4, hS4, hV4, hT4, hF4, hH4⟩ := hs4
    unfold P_plan at hy
    simp only [Bool.and_eq_true, Bool.or_eq_true, List.isEmpty_iff] at hy
    obtain ⟨⟨⟨y1, y2⟩, y3⟩, y4⟩ := hy
    rw [y2] at hS4
    have est : st4 = [] := by
      match st4, hS4 with
      | [], _ => rfl
    subst est
    obtain ⟨v0, z1, a0, rfl, z2⟩ := LR_at hL4 (isR_ok y3)
    obtain ⟨i0, rfl, z3⟩ := xB_in z2 (rfl : Ex.1[0]? = some _)
    cases kdm_eq z3
    have hl0 : ls4[0]? = some (.val (.ref lo)) := hl4.2.2 _ z1
    obtain ⟨J4, K4⟩ := IM_gs J3 hF4.2 hT4 (vin_ok hg4 hV4 y4)
    have KK : KP lo f f4 := KP_tr K2 (KP_tr K3 K4)
    obtain ⟨fs4, e1, e2, e3⟩ := typ_at J4.1 (i := 0) (k := 0) rfl (rfl : Em.1[0]? = some _)
    have e1 : f4 lo = .inr (11, fs4) := e1
    have k4 : px_at lo 17 f4 lo (.inr (11, fs4)) := ⟨⟨by omega, by omega⟩, e1⟩
    obtain ⟨_, w30, p30, rfl, -⟩ := e3 30 (tL (-9223372036854775808) 9223372036854775807) rfl
    obtain ⟨_, w31, p31, rfl, -⟩ := e3 31 (tL (-9223372036854775808) 9223372036854775807) rfl
    obtain ⟨_, w34, p34, rfl, -⟩ := e3 34 _ rfl
    obtain ⟨_, w35, p35, rfl, -⟩ := e3 35 _ rfl
    obtain ⟨_, w36, p36, rfl, -⟩ := e3 36 _ rfl
    obtain ⟨p29, w29, -, -, -⟩ := VB_at J4.2.2 (show Em.2.2.2[7]? = some (0, 29) from rfl) (show Mm6.2.1[7]? = some (pI 0 9) from rfl)
    rw [show lo + 0 = lo from rfl, e1] at w29
    rcases y1 with ((((y1 | y1) | y1) | y1) | y1) | y1
    · rw [Nat.eq_of_beq_eq_true y1]
      refine lv_aload_n X.1 X.2.1 (show decode cX11_plan 76 = .ok (.aload_n 0, 1) by decide +kernel) rfl hl0 ?_
      refine bx_get fl_X11P_ok (i := 267) rfl X hH4 k4 w30 (show decode cX11_plan 77 = .ok (.getfield 267, 3) by decide +kernel) ?_
      exact z_lret X hH4 ⟨RTy_l, J4, KK⟩ (show decode cX11_plan 80 = .ok (.lreturn, 1) by decide +kernel)
    · rw [Nat.eq_of_beq_eq_true y1]
      refine lv_aload_n X.1 X.2.1 (show decode cX11_plan 81 = .ok (.aload_n 0, 1) by decide +kernel) rfl hl0 ?_
      refine bx_get fl_X11P_ok (i := 264) rfl X hH4 k4 w29 (show decode cX11_plan 82 = .ok (.getfield 264, 3) by decide +kernel) ?_
      refine lv_i2l X.1 X.2.1 (show decode cX11_plan 85 = .ok (.i2l, 1) by decide +kernel) rfl ?_
      exact z_lret X hH4 ⟨RTy_l, J4, KK⟩ (show decode cX11_plan 86 = .ok (.lreturn, 1) by decide +kernel)
    · rw [Nat.eq_of_beq_eq_true y1]
      refine lv_aload_n X.1 X.2.1 (show decode cX11_plan 87 = .ok (.aload_n 0, 1) by decide +kernel) rfl hl0 ?_
      refine bx_get fl_X11P_ok (i := 270) rfl X hH4 k4 w31 (show decode cX11_plan 88 = .ok (.getfield 270, 3) by decide +kernel) ?_
      exact z_lret X hH4 ⟨RTy_l, J4, KK⟩ (show decode cX11_plan 91 = .ok (.lreturn, 1) by decide +kernel)
    · rw [Nat.eq_of_beq_eq_true y1]
      refine lv_aload_n X.1 X.2.1 (show decode cX11_plan 92 = .ok (.aload_n 0, 1) by decide +kernel) rfl hl0 ?_
      refine bx_get fl_X11P_ok (i := 276) rfl X hH4 k4 w34 (show decode cX11_plan 93 = .ok (.getfield 276, 3) by decide +kernel) ?_
      refine lv_i2l X.1 X.2.1 (show decode cX11_plan 96 = .ok (.i2l, 1) by decide +kernel) rfl ?_
      exact z_lret X hH4 ⟨RTy_l, J4, KK⟩ (show decode cX11_plan 97 = .ok (.lreturn, 1) by decide +kernel)
    · rw [Nat.eq_of_beq_eq_true y1]
      refine lv_aload_n X.1 X.2.1 (show decode cX11_plan 98 = .ok (.aload_n 0, 1) by decide +kernel) rfl hl0 ?_
      refine bx_get fl_X11P_ok (i := 379) rfl X hH4 k4 w36 (show decode cX11_plan 99 = .ok (.getfield 379, 3) by decide +kernel) ?_
      refine lv_i2l X.1 X.2.1 (show decode cX11_plan 102 = .ok (.i2l, 1) by decide +kernel) rfl ?_
      exact z_lret X hH4 ⟨RTy_l, J4, KK⟩ (show decode cX11_plan 103 = .ok (.lreturn, 1) by decide +kernel)
    · rw [Nat.eq_of_beq_eq_true y1]
      refine lv_aload_n X.1 X.2.1 (show decode cX11_plan 104 = .ok (.aload_n 0, 1) by decide +kernel) rfl hl0 ?_
      refine bx_get fl_X11P_ok (i := 273) rfl X hH4 k4 w35 (show decode cX11_plan 105 = .ok (.getfield 273, 3) by decide +kernel) ?_
      refine lv_i2l X.1 X.2.1 (show decode cX11_plan 108 = .ok (.i2l, 1) by decide +kernel) rfl ?_
      exact z_lret X hH4 ⟨RTy_l, J4, KK⟩ (show decode cX11_plan 109 = .ok (.lreturn, 1) by decide +kernel)
  refine lv_iload_n X.1 X.2.1 (show decode cX11_plan 5 = .ok (.iload_n 2, 1) by decide +kernel) rfl (lv_at hl 2 rfl) ?_
  refine lv_i2l (v := q.toInt64) X.1 X.2.1 (show decode cX11_plan 6 = .ok (.i2l, 1) by decide +kernel) rfl ?_
  refine lv_lconst (v := 0) X.1 X.2.1 (show decode cX11_plan 7 = .ok (.lconst 0, 1) by decide +kernel) rfl ?_
  refine lv_ldc2 X.1 X.2.1 (own := RX11) X.2.2.2.1 (X.2.2.2.2.1 _ mw_1656) (show decode cX11_plan 8 = .ok (.ldc2_w 345, 3) by decide +kernel) ?_
  refine px_callS (k := 0) (idx := 70) (na := 3) (As := [.long q.toInt64, .long 0, .long 5]) (rest := []) X hH (c_in l D t lo 17 f1 q.toInt64 0 5) mw_1416 mw_1417 mw_12 mw_1418 (by decide +kernel) ⟨by decide, by decide⟩ ⟨Nat.le_refl _, Nat.le_refl _⟩ hl.1 rfl rfl (by decide) (show decode cX11_plan 11 = .ok (.invokestatic 70, 3) by decide +kernel) (fun H2 locs2 hH _ => ?_)
  refine lv_if_eq (tgt := 25) X.1 X.2.1 (show decode cX11_plan 14 = .ok (.ifCond .eq 11, 3) by decide +kernel) (by decide) (fun _ => ?_) (fun _ => ?_)
  · refine lv_bipush (v := (-2)) X.1 X.2.1 (show decode cX11_plan 25 = .ok (.bipush (-2), 2) by decide +kernel) (by decide) ?_
    exact join (-2) f1 H2 locs2 J JK (fun h => absurd h (by decide)) hH
  refine lv_aload_n X.1 X.2.1 (show decode cX11_plan 17 = .ok (.aload_n 0, 1) by decide +kernel) rfl (lv_at hl 0 rfl) ?_
  refine lv_iload_n X.1 X.2.1 (show decode cX11_plan 18 = .ok (.iload_n 1, 1) by decide +kernel) rfl (lv_at hl 1 rfl) ?_
  refine z_callV (Y := Ywhy) (n := 17) (idx := 382) (na := 1) (b := lo) (As := [.int k]) (rest := []) X hH (c_whyNot l D t lo J k) k0 (rfl : vwCl[11]? = some _) mw_1752 mw_1754 ms_81 mw_12 mw_1755 (by decide +kernel) ⟨by decide, by decide⟩ ⟨Nat.le_refl _, Nat.le_refl _⟩ hl.1 rfl rfl (by decide) (show decode cX11_plan 19 = .ok (.invokevirtual 382, 3) by decide +kernel) (fun ov f3 hz H3 locs3 hH3 => ?_)
  obtain ⟨r, rfl, J3, K3, h3⟩ := hz
  refine lv_goto (tgt := 27) X.1 X.2.1 (show decode cX11_plan 22 = .ok (.goto 5, 3) by decide +kernel) (by decide) ?_
  exact join r f3 H3 locs3 J3 (KP_tr JK K3) h3 hH3
