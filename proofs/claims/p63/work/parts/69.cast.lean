/-! cast of the reference -/
def M_castA : XM := ([pR 0, pI (-2147483648) 2147483647, pI (-2147483648) 2147483647, pI (-2147483648) 2147483647, pI (-2147483648) 2147483647], [pI 0 1400, pI 0 1400, pI 0 4, pI 0 10000009, pI 0 3, pI 0 10, pI 0 60, pI 0 9, pI (-1) 1023, pI (-1) 1023, pI (-1) 9, pI 0 1401, pI 0 4, pI 0 4, pI 0 40, pI 0 60, pI 0 60, pI 0 60, pI 0 60, pI 0 1401, pI 0 100, pI 0 4, pI 0 8, pI 0 4, pI 0 12, pI (-1) 10000, pI (-1) 10000, pI (-1) 10000, pI (-1) 10000, pI (-1) 10000, pI (-1) 10000, pI (-1) 10000, pI (-1) 10000], [([(0, 0), ((-2147483648), 2147483647), ((-2147483648), 2147483647), ((-2147483648), 2147483647), ((-2147483648), 2147483647), (0, 1400), (0, 1400), (0, 4), (0, 10000009), (0, 3), (0, 10), (0, 60), (0, 9), ((-1), 1023), ((-1), 1023), ((-1), 9), (0, 1401), (0, 4), (0, 4), (0, 40), (0, 60), (0, 60), (0, 60), (0, 60), (0, 1401), (0, 100), (0, 4), (0, 8), (0, 4), (0, 12), ((-1), 10000), ((-1), 10000), ((-1), 10000), ((-1), 10000), ((-1), 10000), ((-1), 10000), ((-1), 10000), ((-1), 10000)], some (pI (-2) (-2)), [pE 5 0, pE 6 0, pE 7 0, pE 8 0, pE 9 0, pE 10 0, pE 11 0, pE 12 0, pE 13 0, pE 14 0, pE 15 0, pE 16 0, pE 17 0, pE 18 0, pE 19 0, pE 20 0, pE 21 0, pE 22 0, pE 23 0, pE 24 0, pE 25 0, pE 26 0, pE 27 0, pE 28 0, pE 29 0, pE 30 0, pE 31 0, pE 32 0, pE 33 0, pE 34 0, pE 35 0, pE 36 0, pE 37 0], [])], [])
def N_castA : List (Nat × List XD) := [(50, [(50, [(0, 0), ((-2147483648), 2147483647), ((-2147483648), 2147483647), ((-2147483648), 2147483647), ((-2147483648), 2147483647), (0, 1400), (0, 1400), (0, 4), (0, 10000009), (0, 3), (0, 10), (0, 60), (0, 9), ((-1), 1023), ((-1), 1023), ((-1), 9), (0, 1401), (0, 4), (0, 4), (0, 40), (0, 60), (0, 60), (0, 60), (0, 60), (0, 1401), (0, 100), (0, 4), (0, 8), (0, 4), (0, 12), ((-1), 10000), ((-1), 10000), ((-1), 10000), ((-1), 10000), ((-1), 10000), ((-1), 10000), ((-1), 10000), ((-1), 10000)], [], [pE 5 0, pE 6 0, pE 7 0, pE 8 0, pE 9 0, pE 10 0, pE 11 0, pE 12 0, pE 13 0, pE 14 0, pE 15 0, pE 16 0, pE 17 0, pE 18 0, pE 19 0, pE 20 0, pE 21 0, pE 22 0, pE 23 0, pE 24 0, pE 25 0, pE 26 0, pE 27 0, pE 28 0, pE 29 0, pE 30 0, pE 31 0, pE 32 0, pE 33 0, pE 34 0, pE 35 0, pE 36 0, pE 37 0], 1, [0, 0, 0, 0, 0, 0, 0, 0, 0, 0, 0, 0, 0, 0, 0, 0, 0, 0, 0, 0, 0, 0, 0, 0, 0, 0, 0, 0, 0, 0, 0, 0, 0], [])])]
abbrev ce_castA : List (Nat × XM) := [(5, Mx6), (6, Mx9), (6, Mx8), (6, Mx7)]
theorem ce_castA_ok (l : Launch) (xt : XX) (D : va_G) (t : Nat → ClassId) (lo : Nat) (hw : TWX Ex xt lo ∧ STok Ex xt t) : ∀ q ∈ ce_castA, ∃ Y, ysx[q.1]? = some Y ∧ HOLDS l Ex xt D t lo Y q.2 := List.forall_mem_cons.mpr ⟨⟨Yx5, rfl, Hx6 l xt D t lo hw⟩, List.forall_mem_cons.mpr ⟨⟨Yx6, rfl, Hx9 l xt D t lo hw⟩, List.forall_mem_cons.mpr ⟨⟨Yx6, rfl, Hx8 l xt D t lo hw⟩, List.forall_mem_cons.mpr ⟨⟨Yx6, rfl, Hx7 l xt D t lo hw⟩, fun _ h => absurd h List.not_mem_nil⟩⟩⟩⟩
abbrev ce_castB : List (Nat × XM) := [(1, Mx2), (3, Mx3), (4, Mx4)]
theorem ce_castB_ok (l : Launch) (xt : XX) (D : va_G) (t : Nat → ClassId) (lo : Nat) (hw : TWX Ex xt lo ∧ STok Ex xt t) : ∀ q ∈ ce_castB, ∃ Y, ysx[q.1]? = some Y ∧ HOLDS l Ex xt D t lo Y q.2 := List.forall_mem_cons.mpr ⟨⟨Yx1, rfl, Hx2 l xt D t lo hw⟩, List.forall_mem_cons.mpr ⟨⟨Yx3, rfl, Hx3 l xt D t lo hw⟩, List.forall_mem_cons.mpr ⟨⟨Yx4, rfl, Hx4 l xt D t lo hw⟩, fun _ h => absurd h List.not_mem_nil⟩⟩⟩

abbrev g_castA : XG := ((q_X11X, fl_X11X, ml_X11X, ac_X11X), (5, 9), (depx, ce_castA))
abbrev g_castB : XG := ((q_X11X, fl_X11X, ml_X11X, ac_X11X), (5, 9), (depx, ce_castB))
def P_castA (y : XC) : Bool := Nat.beq y.1 53 && y.2.2.2.1.isEmpty && isR 0 (xget y.2.2.1 0) && b1 1 10000 (lbx y.2.1 y.2.2.1 1) && b1 0 40 (lbx y.2.1 y.2.2.1 2) && b1 0 11 (lbx y.2.1 y.2.2.1 3) && b1 0 3 (lbx y.2.1 y.2.2.1 4) && vin y.2.1 y.2.2.2.2 Mm6.2.1 && b1 1 4 (vbx y.2.1 y.2.2.2.2 12)
theorem chk_castA : xchkP Ex g_castA M_castA 0 cX11_cast N_castA [] P_castA 40 = true := by decide +kernel
def VC1 : List XP := (Mm6.2.1.set 6 (pI 0 40)).set 12 (pI 1 4)
def LC1 : List XP := [pR 0, pI 1 10000, pI 0 40, pI 0 11, pI 0 3]
def P_castB (y : XC) : Bool := y.2.2.2.1.isEmpty && isR 0 (xget y.2.2.1 0) && vin y.2.1 y.2.2.2.2 Mm6.2.1 && (Nat.beq y.1 105 || (Nat.beq y.1 108 && b1 1 10000 (lbx y.2.1 y.2.2.1 1) && b1 0 40 (lbx y.2.1 y.2.2.1 2) && b1 0 11 (lbx y.2.1 y.2.2.1 3) && b1 0 3 (lbx y.2.1 y.2.2.1 4) && b1 0 9 (vbx y.2.1 y.2.2.2.2 5) && b1 0 39 (vbx y.2.1 y.2.2.2.2 14) && b1 1 4 (vbx y.2.1 y.2.2.2.2 12)))
theorem run_castB : xrunN Ex g_castB ([], [], [], []) 9 cX11_cast [] [] P_castB none 40 (pt 57 VC1 LC1) = true := by decide +kernel
theorem Ex_ks : Ex.1.map kstrip = Em.1.map kstrip := rfl
theorem VC1_len : VC1.length = 33 := by decide +kernel
/-- where guarded places are as they were -/
theorem GI_gs {t : Nat → ClassId} {lo : Nat} {f1 f : Nat → va_E} (h : gsame Ex lo f1 f) (hG : GI lo f1) (hb : cv f1 (lo + 0) 24 ≤ 10) : GI lo f ∧ cv f (lo + 0) 24 ≤ 10 := by
  have := pgm (fun _ _ _ => True) t lo f1 f h.1 h.2 ⟨⟨hG, hb⟩, trivial⟩
  exact this.1
theorem twxx {f1 : Nat → va_E} {t : Nat → ClassId} {lo : Nat} (hG : GI lo f1) (hb : cv f1 (lo + 0) 24 ≤ 10) : TWX Ex (xte Ex f1 t) lo ∧ STok Ex (xte Ex f1 t) t :=
  ⟨⟨twx, pge Ex f1 t lo, fun f h κ p j q a b hm i o k w v => gbm_ok (fun _ _ _ => True) t lo f ⟨GI_gs (t := t) h hG hb, trivial⟩ κ p j q a b hm i o k w v⟩, ste (by decide +kernel)⟩
theorem IM_gs {t : Nat → ClassId} {lo : Nat} {f f2 : Nat → va_E} (hI : IM t lo f) (h : gsame Ex lo f f2) (hT : TYP Ex (xte Ex f t) t lo f2) (hV : VB Em lo Mm6.2.1 f2) : IM t lo f2 ∧ KP lo f f2 := by
  refine ⟨⟨TYP_strip rfl Ex_ks rfl hT, (GI_gs (t := t) h hI.2.1 (IM_10 hI)).1, hV⟩, fun k _ => ?_, fun k _ => ?_, fun k hk => gs_cv h rfl rfl ⟨(0, 3), by decide, by omega, hk⟩⟩
  · unfold cv
    rw [h.2 1 1 rfl rfl]
  · unfold cv
    rw [h.2 2 2 rfl rfl]
/-- V of what lays leaves -/
theorem VB_33 {lo : Nat} {f : Nat → va_E} (h : VB El lo VLg f) : VB Em lo (Mm6.2.1.set 6 (pI 0 40)) f := by
  intro j o k P hj hP
  have hlt : j < 33 := by rw [← trm_len]; exact (List.getElem?_eq_some_iff.mp hj).1
  have hj' : El.2.2.2[j]? = some (o, k) := by rw [trl_pre ⟨j, hlt⟩]; exact hj
  refine h j o k P hj' ?_
  unfold VLg
  by_cases c : j = 6
  · subst c
    exact hP
  · rw [List.getElem?_set_ne (Ne.symm c)] at hP ⊢
    rw [of_decide_eq_true (List.all_eq_true.mp V_bg_pre0 j (List.mem_range.mpr hlt))]
    exact hP
theorem KP_lays {t : Nat → ClassId} {lo N : Nat} {f f2 : Nat → va_E} (h : LINV t lo f N f2) : KP lo f f2 := by
  obtain ⟨v1, v2, v3, v4, v5, v6, v7⟩ := h
  refine ⟨fun k _ => ?_, fun k _ => ?_, fun k hk => gs_cv v3 rfl rfl ⟨(0, 3), by decide, by omega, hk⟩⟩
  · unfold cv
    rw [v3.2 1 1 rfl rfl]
  · unfold cv
    rw [v3.2 2 2 rfl rfl]
theorem VB_wide {E : XE} {lo : Nat} {ps qs : List XP} {f : Nat → va_E} (h : VB E lo ps f) (hl : qs.length ≤ ps.length) (hw : ((List.range qs.length).all fun j => match ps[j]?, qs[j]? with | some P, some Q => (match P with | .inl (.inl (u, w)) => inb Q u w | _ => false) | _, _ => false) = true) : VB E lo qs f := by
  intro j o k Q hj hQ
  have hlt : j < qs.length := (List.getElem?_eq_some_iff.mp hQ).1
  obtain ⟨i, a, b, h1, h2, h3, h4⟩ := h j o k _ hj (List.getElem?_eq_getElem (by omega))
  have := List.all_eq_true.mp hw j (List.mem_range.mpr hlt)
  rw [List.getElem?_eq_getElem (show j < ps.length by omega), hQ, h2] at this
  obtain ⟨x, y, e1, e2, e3⟩ := inb_ok this
  exact ⟨i, x, y, h1, e1, by omega, by omega⟩
/-- an act more: what holds between calls -/
theorem IM_acts {t : Nat → ClassId} {lo : Nat} {f : Nat → va_E} {gh ga : Nat → Int32} {N : Nat} {w a b c d : Int32} (hI : IM t lo f) (h7 : f (lo + 7) = .inl (t 0, 65, .inl gh)) (h12 : f (lo + 12) = .inl (t 0, 1000, .inl ga)) (hN : gh 12 = nI N) (hN9 : N ≤ 39) (hl : 1 ≤ cv f (lo + 6) 0) (hw : w.toInt = 1 → cv f (lo + 7) 6 + casts f lo 0 N + 1 ≤ 10) (hok : actok w.toInt a.toInt) (hb : (-1 ≤ w.toInt ∧ w.toInt ≤ 10000) ∧ (-1 ≤ a.toInt ∧ a.toInt ≤ 10000) ∧ (-1 ≤ b.toInt ∧ b.toInt ≤ 10000) ∧ (-1 ≤ c.toInt ∧ c.toInt ≤ 10000) ∧ (-1 ≤ d.toInt ∧ d.toInt ≤ 10000)) : IM t lo (actsF t lo f gh ga N w a b c d) ∧ KP lo f (actsF t lo f gh ga N w a b c d) := by
  obtain ⟨g7, q1, q2, q3⟩ := (cok_arr (by decide)).mp (typ_at hI.1 (i := 7) (k := 7) rfl (rfl : Em.1[7]? = some _))
  rw [h7] at q1
  cases q1
  obtain ⟨g12, r1, r2, -⟩ := (cok_arr (by decide)).mp (typ_at hI.1 (i := 12) (k := 12) rfl (rfl : Em.1[12]? = some _))
  rw [h12] at r1
  cases r1
  have hT : TYP Em (xtm (fun _ _ _ => True) t) t lo (actsF t lo f gh ga N w a b c d) := by
    unfold actsF
    refine TYP_up (i := 7) (TYP_up (i := 12) hI.1 rfl (rfl : Em.1[12]? = some _) ?_) rfl (rfl : Em.1[7]? = some _) ?_
    · exact (cok_arr (by decide)).mpr ⟨_, rfl, fun i hi => upd5_b (r2 i hi) hb.1 hb.2.1 hb.2.2.1 hb.2.2.2.1 hb.2.2.2.2, fun i b hb => by cases hb⟩
    · refine (cok_arr (by decide)).mpr ⟨_, rfl, fun i hi => ?_, fun i b hb => ?_⟩
      · by_cases ci : i = 12
        · subst ci; rw [upd_at, nI_toInt (by omega)]; omega
        · rw [upd_ne ci]; exact q2 i hi
      · by_cases ci : i = 12
        · subst ci
          cases hb
          rw [upd_at, nI_toInt (by omega)]
          exact ⟨by show (0 : Int) ≤ _; omega, by show _ ≤ (40 : Int); omega⟩
        · rw [upd_ne ci]; exact q3 i b hb
  have off : ∀ o k : Nat, o ≠ 7 → o ≠ 12 → cv (actsF t lo f gh ga N w a b c d) (lo + o) k = cv f (lo + o) k := fun o k h1 h2 => by
    unfold cv actsF
    rw [va_up_ne _ _ (by omega), va_up_ne _ _ (by omega)]
  refine ⟨⟨hT, GI_acts h7 h12 hN hN9 hl hw hok hI.2.1, VB_typ hT hI.2.2 (fun j o k hj ho => ?_)⟩, fun k _ => off 1 k (by decide) (by decide), fun k _ => off 2 k (by decide) (by decide), fun k _ => off 13 k (by decide) (by decide)⟩
  unfold actsF
  rw [va_up_ne _ _ (by omega), va_up_ne _ _ (by omega)]
abbrev Ycast : XY := (yX11_cast, cX11_cast, 5, some .int, 9)
theorem castA_V : M_castA.2.1 = Mm6.2.1 := by decide +kernel
theorem castA_x : M_castA.2.2.1.all (fun o => exL o Mm6.2.1 o.2.2.1 && ansB 0 o) = true := by decide +kernel
theorem R_cast (l : Launch) (D : va_G) (t : Nat → ClassId) (lo : Nat) {f : Nat → va_E} (hI : IM t lo f) (a1 a2 a3 a4 : Int32) : MetZ l Ycast D t lo 17 f [.ref lo, .int a1, .int a2, .int a3, .int a4] (PZ 0 t lo f) := by
  have hw := twxx (t := t) hI.2.1 (IM_10 hI)
  have hxB : xB Ex lo (xte Ex f t) 0 lo := xB_of (i := 0) rfl (rfl : Ex.1[0]? = some _)
  have hn17 : Ex.2.1.length = 17 := rfl
  refine stopZ (g := g_castA) (rt := 0) (M := M_castA) (E := Ex) (xt := xte Ex f t) (G0 := [0, a1.toInt, a2.toInt, a3.toInt, a4.toInt] ++ cvs Ex lo f) (ys := ysx) (by decide +kernel) rfl rfl rfl ⟨hw, q_X11X_ok, fl_X11X_ok, ml_X11X_ok, ac_X11X_ok, depx_ok, ce_castA_ok l _ D t lo hw⟩ chk_castA (ent_of (zs := [0, a1.toInt, a2.toInt, a3.toInt, a4.toInt]) rfl (by rw [castA_V]; exact hI.2.2) ⟨⟨⟨lo, rfl, hxB⟩, rfl⟩, ⟨a1, rfl, rfl, Int32.le_toInt a1, Int32.toInt_le a1⟩, ⟨a2, rfl, rfl, Int32.le_toInt a2, Int32.toInt_le a2⟩, ⟨a3, rfl, rfl, Int32.le_toInt a3, Int32.toInt_le a3⟩, ⟨a4, rfl, rfl, Int32.le_toInt a4, Int32.toInt_le a4⟩, trivial⟩ rfl) (TYP_strip rfl Ex_ks.symm rfl hI.1) gsame_rf (fun ov f2 hz => ?_) (fun p e s m below meth c X y hy Gs f2 lv H locs ls st _ hg hl hL hS hV hT hF hH => ?_)
  · obtain ⟨o, ho, hO, hT, hF⟩ := hz
    have hb := List.all_eq_true.mp castA_x o ho
    rw [Bool.and_eq_true] at hb
    exact ⟨ansB_ok hO hb.2, IM_gs hI hF.2 hT (VB_exit hO hb.1)⟩
  · unfold P_castA at hy
    simp only [Bool.and_eq_true, List.isEmpty_iff] at hy
    obtain ⟨⟨⟨⟨⟨⟨⟨⟨y1, y2⟩, y3⟩, c1⟩, c2⟩, c3⟩, c4⟩, y4⟩, y5⟩ := hy
    rw [Nat.eq_of_beq_eq_true y1]
    rw [y2] at hS
    have est : st = [] := by
      match st, hS with
      | [], _ => rfl
    subst est
    obtain ⟨v0, z1, a0, rfl, z2⟩ := LR_at hL (isR_ok y3)
    obtain ⟨i0, rfl, z3⟩ := xB_in z2 (rfl : Ex.1[0]? = some _)
    cases kdm_eq z3
    obtain ⟨x1, m1, u1, w1⟩ := lbx_ok hg hL c1
    obtain ⟨x2, m2, u2, w2⟩ := lbx_ok hg hL c2
    obtain ⟨x3, m3, u3, w3⟩ := lbx_ok hg hL c3
    obtain ⟨x4, m4, u4, w4⟩ := lbx_ok hg hL c4
    have hl : lv_has ls 5 [(0, .ref lo), (1, .int x1), (2, .int x2), (3, .int x3), (4, .int x4)] := lv_less hl (fun q hq => by
      simp only [List.mem_cons, List.not_mem_nil, or_false] at hq
      rcases hq with rfl | rfl | rfl | rfl | rfl
      · exact z1
      · exact m1
      · exact m2
      · exact m3
      · exact m4)
    obtain ⟨J, JK⟩ := IM_gs hI hF.2 hT (vin_ok hg hV y4)
    have h5 := b1_ok hg hV (show Ex.2.2.2[12]? = some (7, 5) from rfl) y5
    obtain ⟨fs1, r0, r49, rrf⟩ := typ_refs J.1
    have k0 : px_at lo 17 f2 lo (.inr (11, fs1)) := ⟨⟨by omega, by omega⟩, r0⟩
    obtain ⟨⟨n1, n2⟩, -⟩ := J.2.1.1 0 (by decide)
    rw [Nat.mul_zero, Nat.zero_add] at n1 n2
    obtain ⟨N, hN⟩ : ∃ N : Nat, cv f2 (lo + 7) 12 = (N : Int) := ⟨(cv f2 (lo + 7) 12).toNat, by omega⟩
    refine lv_aload_n X.1 X.2.1 (show decode cX11_cast 53 = .ok (.aload_n 0, 1) by decide +kernel) rfl (lv_at hl 0 rfl) ?_
    refine z_callV (Y := Ym6) (n := 17) (idx := 333) (na := 0) (b := lo) (As := []) (rest := []) X hH (c_lays l D t lo J.2.1 (typ_ml rfl J.1) (VB_lm J.2.2 J.1 J.2.1) hN (by omega)) k0 (rfl : vwCl[11]? = some _) mw_1590 mw_1592 ms_63 mw_12 mw_1593 (by decide +kernel) ⟨by decide, by decide⟩ ⟨Nat.le_refl _, Nat.le_refl _⟩ hl.1 rfl rfl (by decide) (show decode cX11_cast 54 = .ok (.invokevirtual 333, 3) by decide +kernel) (fun ov f3 hz H3 locs3 hH3 => ?_)
    obtain ⟨rfl, I⟩ := hz
    have G3 := GI_lays J.2.1 I
    have K3 := KP_lays I
    obtain ⟨v1, v2, v3, v4, v5, v6, v7⟩ := I
    have V3 := VB_33 v1
    have J3 : IM t lo f3 := ⟨typ_lm rfl v2, G3, VB_wide V3 (by decide +kernel) (by decide +kernel)⟩
    have e5 := v4 12 7 5 (by decide) (by decide) (by decide) (by decide) rfl
    have hw3 := twxx (t := t) J3.2.1 (IM_10 J3)
    have hxB3 : xB Ex lo (xte Ex f3 t) 0 lo := xB_of (i := 0) rfl (rfl : Ex.1[0]? = some _)
    refine segGO (g := g_castB) (fuel := 40) (x := pt 57 VC1 LC1) (E := Ex) (xt := xte Ex f3 t) (G0 := cvs Ex lo f3 ++ [0, x1.toInt, x2.toInt, x3.toInt, x4.toInt]) (f0 := f3) (A := px_A lo 17) (ys := ysx) X ⟨hw3, q_X11X_ok, fl_X11X_ok, ml_X11X_ok, ac_X11X_ok, depx_ok, ce_castB_ok l _ D t lo hw3⟩ rfl ⟨Nat.le_refl _, Nat.le_refl _⟩ ⟨Nat.le_refl _, Nat.le_refl _⟩ run_castB (fun y hy => ?_) H3 locs3 ls [] (SAT_pt (LP := LC1) (vs := [.ref lo, .int x1, .int x2, .int x3, .int x4]) (by rw [VC1_len]; rfl) (VB_set V3 (show Ex.2.2.2[12]? = some (7, 5) from rfl) (by omega)) (show AOK (xB Ex lo (xte Ex f3 t)) [pR 0, pI 1 10000, pI 0 40, pI 0 11, pI 0 3] [.ref lo, .int x1, .int x2, .int x3, .int x4] [0, x1.toInt, x2.toInt, x3.toInt, x4.toInt] from ⟨⟨⟨lo, rfl, hxB3⟩, rfl⟩, ⟨x1, rfl, rfl, u1, w1⟩, ⟨x2, rfl, rfl, u2, w2⟩, ⟨x3, rfl, rfl, u3, w3⟩, ⟨x4, rfl, rfl, u4, w4⟩, trivial⟩) hl (TYP_strip rfl Ex_ks.symm rfl J3.1) ⟨fun _ _ _ _ => rfl, gsame_rf⟩ hH3)
    intro H4 locs4 ls4 st4 hs4
    obtain ⟨Gs4, f4, lv4, -, hg4, hl4, hL4, hS4, hV4, hT4, hF4, hH4⟩ := hs4
    unfold P_castB at hy
    simp only [Bool.and_eq_true, Bool.or_eq_true, List.isEmpty_iff] at hy
    obtain ⟨⟨⟨y2, y3⟩, y4⟩, y6⟩ := hy
    rw [y2] at hS4
    have est : st4 = [] := by
      match st4, hS4 with
      | [], _ => rfl
    subst est
    obtain ⟨v0, z1, a0, rfl, z2⟩ := LR_at hL4 (isR_ok y3)
    obtain ⟨i0, rfl, z3⟩ := xB_in z2 (rfl : Ex.1[0]? = some _)
    cases kdm_eq z3
    obtain ⟨J4, K4⟩ := IM_gs J3 hF4.2 hT4 (vin_ok hg4 hV4 y4)
    have K24 : KP lo f f4 := KP_tr JK (KP_tr K3 K4)
    rcases y6 with y6 | ⟨⟨⟨⟨⟨⟨⟨y6, d1⟩, d2⟩, d3⟩, d4⟩, d5⟩, d6⟩, d7⟩
    · rw [Nat.eq_of_beq_eq_true y6]
      refine lv_bipush (v := -5) X.1 X.2.1 (show decode cX11_cast 105 = .ok (.bipush (-5), 2) by decide +kernel) (by decide) ?_
      exact z_iret X hH4 ⟨⟨_, rfl⟩, J4, K24⟩ (show decode cX11_cast 107 = .ok (.ireturn, 1) by decide +kernel)
    · rw [Nat.eq_of_beq_eq_true y6]
      obtain ⟨s1, o1, p1, q1⟩ := lbx_ok hg4 hL4 d1
      obtain ⟨s2, o2, p2, q2⟩ := lbx_ok hg4 hL4 d2
      obtain ⟨s3, o3, p3, q3⟩ := lbx_ok hg4 hL4 d3
      obtain ⟨s4, o4, p4, q4⟩ := lbx_ok hg4 hL4 d4
      have hl : lv_has ls4 5 [(0, .ref lo), (1, .int s1), (2, .int s2), (3, .int s3), (4, .int s4)] := lv_less hl4 (fun q hq => by
        simp only [List.mem_cons, List.not_mem_nil, or_false] at hq
        rcases hq with rfl | rfl | rfl | rfl | rfl
        · exact z1
        · exact o1
        · exact o2
        · exact o3
        · exact o4)
      have e24 := b1_ok hg4 hV4 (show Ex.2.2.2[5]? = some (0, 24) from rfl) d5
      have e12 := b1_ok hg4 hV4 (show Ex.2.2.2[14]? = some (7, 12) from rfl) d6
      have e55 := b1_ok hg4 hV4 (show Ex.2.2.2[12]? = some (7, 5) from rfl) d7
      have hg34 : gsame Ex lo f3 f4 := hF4.2
      have c24 : cv f4 (lo + 0) 24 = cv f3 (lo + 0) 24 := gs_cv hg34 rfl rfl ⟨(24, 25), by decide, by decide, by decide⟩
      have c12 : cv f4 (lo + 7) 12 = cv f2 (lo + 7) 12 := (gs_cv hg34 rfl rfl ⟨(3, 52), by decide, by decide, by decide⟩).trans (gs_cv v3 rfl rfl ⟨(3, 52), by decide, by decide, by decide⟩)
      have c6 : cv f4 (lo + 7) 6 = cv f2 (lo + 7) 6 := (gs_cv hg34 rfl rfl ⟨(3, 52), by decide, by decide, by decide⟩).trans (gs_cv v3 rfl rfl ⟨(3, 52), by decide, by decide, by decide⟩)
      have cc : casts f4 lo 0 N = casts f2 lo 0 N := casts_congr (fun k hk => (gs_cv hg34 rfl rfl ⟨(0, 1000), by decide, by omega, by show 200 * 0 + 5 * k < 1000; omega⟩).trans (gs_cv v3 rfl rfl ⟨(0, 1000), by decide, by omega, by show 200 * 0 + 5 * k < 1000; omega⟩))
      have lin : 1 ≤ cv f4 (lo + 6) 0 := by
        obtain ⟨-, -, -, -, b⟩ := J4.2.1.1 0 (by decide)
        simp only [Nat.mul_zero, Nat.zero_add] at b
        rcases b with b | b
        · omega
        · exact b.1
      obtain ⟨gh, t7, -, -⟩ := (cok_arr (by decide)).mp (typ_at J4.1 (i := 7) (k := 7) rfl (rfl : Em.1[7]? = some _))
      obtain ⟨ga, t12, -, -⟩ := (cok_arr (by decide)).mp (typ_at J4.1 (i := 12) (k := 12) rfl (rfl : Em.1[12]? = some _))
      have eN : gh 12 = nI N := toI (by rw [← cv_arr t7 (show 12 < 65 by decide), c12]; exact hN) (by omega)
      obtain ⟨fs4, r0, r49, rrf⟩ := typ_refs J4.1
      have k4 : px_at lo 17 f4 lo (.inr (11, fs4)) := ⟨⟨by omega, by omega⟩, r0⟩
      refine lv_aload_n X.1 X.2.1 (show decode cX11_cast 108 = .ok (.aload_n 0, 1) by decide +kernel) rfl (lv_at hl 0 rfl) ?_
      refine lv_iconst (v := 1) X.1 X.2.1 (show decode cX11_cast 109 = .ok (.iconst 1, 1) by decide +kernel) (by decide) ?_
      refine lv_iload_n X.1 X.2.1 (show decode cX11_cast 110 = .ok (.iload_n 1, 1) by decide +kernel) rfl (lv_at hl 1 rfl) ?_
      refine lv_iload_n X.1 X.2.1 (show decode cX11_cast 111 = .ok (.iload_n 2, 1) by decide +kernel) rfl (lv_at hl 2 rfl) ?_
      refine lv_iload_n X.1 X.2.1 (show decode cX11_cast 112 = .ok (.iload_n 3, 1) by decide +kernel) rfl (lv_at hl 3 rfl) ?_
      refine lv_iload X.1 X.2.1 (show decode cX11_cast 113 = .ok (.iload 4, 2) by decide +kernel) (lv_at hl 4 rfl) ?_
      refine px_callV (k := 0) (idx := 367) (na := 5) (b := lo) (As := [.int 1, .int s1, .int s2, .int s3, .int s4]) (rest := []) X hH4 (c_acts l D t lo 17 f4 r0 (rrf 17 7 ⟨_, rfl, rfl⟩ (by decide)) (rrf 22 12 ⟨_, rfl, rfl⟩ (by decide)) t7 t12 eN (by omega) (by decide) 1 s1 s2 s3 s4) k4 (rfl : vwCl[11]? = some _) mw_1721 mw_1723 ms_80 mw_12 mw_1724 (by decide +kernel) ⟨by decide, by decide⟩ ⟨Nat.le_refl _, Nat.le_refl _⟩ hl.1 rfl rfl (by decide) (show decode cX11_cast 115 = .ok (.invokevirtual 367, 3) by decide +kernel) (fun H5 locs5 hH5 _ => ?_)
      obtain ⟨J5, K5⟩ := IM_acts (w := 1) (a := s1) (b := s2) (c := s3) (d := s4) J4 t7 t12 eN (by omega) lin (fun _ => by rw [c6, cc]; omega) ⟨⟨by decide, by decide⟩, fun h => by rcases h with h | h <;> exact absurd h (by decide), fun _ => ⟨p1, q1⟩⟩ ⟨⟨by decide, by decide⟩, ⟨by omega, by omega⟩, ⟨by omega, by omega⟩, ⟨by omega, by omega⟩, ⟨by omega, by omega⟩⟩
      refine lv_aload_n X.1 X.2.1 (show decode cX11_cast 118 = .ok (.aload_n 0, 1) by decide +kernel) rfl (lv_at hl 0 rfl) ?_
      obtain ⟨ib, w1, w2, w3, w4⟩ := VB_at J5.2.2 (show Em.2.2.2[5]? = some (0, 24) from rfl) (show Mm6.2.1[5]? = some (pI 0 10) from rfl)
      obtain ⟨fs5, r5, -, -⟩ := typ_refs J5.1
      rw [show lo + 0 = lo from rfl, r5] at w1
      refine bx_get fl_X11_ok (i := 246) rfl X hH5 ⟨⟨by omega, by omega⟩, r5⟩ w1 (show decode cX11_cast 119 = .ok (.getfield 246, 3) by decide +kernel) ?_
      exact z_iret X hH5 ⟨⟨_, rfl⟩, J5, KP_tr K24 K5⟩ (show decode cX11_cast 122 = .ok (.ireturn, 1) by decide +kernel)
/-- the numbers of a plan are years and bells: what whyNot has seen -/
def PLc (s : Nat) (m c : va_E) : Prop := ∀ (i : Nat) (w : Int32) (v : Value), i < 30 → cellv m s = some (.int w) → (2 * i : Int) < w.toInt → cellv c (60 * s + 2 * i + 1) = some v → 0 ≤ gv v ∧ gv v ≤ 9
def PL (s : Nat) (K : Nat → Option Value) : XK3 := fun m c k => PLc s m c ∧ k = K
