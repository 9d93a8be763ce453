/-! paste of the reference -/
theorem mw_1264 : Jvm.Cond.fieldLink "BellMoneyModel" (20 : Nat) "BellMoneyModel" "moved" "[J" ∈ Wd := List.mem_filter.mpr ⟨List.mem_of_getElem? (i := 1366) (by decide +kernel), by decide +kernel⟩
theorem fl_M_ok : FLok RX11 [(20, 11, 4, 4)] := FLok.cons ⟨RX11, TX11, 49, tyX11, rfl, iX11, tyX11_ok, nmX11, by decide, mw_1264, trivial⟩ FLok.nil
/-- what paste answers, of widths and numbers -/
def pstB (ws wt ms mt slot i to k n : Int) : Int := if ¬ (0 ≤ slot ∧ slot ≤ 3) ∨ ¬ (0 ≤ to ∧ to ≤ 3) then -2 else if ws = -1 ∨ wt = -1 then -6 else if ws ≠ wt then -8 else if i < 0 ∨ k < 0 ∨ n < 0 ∨ ms < i + n ∨ mt < k + n then -7 else 0
def pstA (w m : Int → Int) (slot i to k n : Int) : Int := pstB (w slot) (w to) (m slot) (m to) slot i to k n
def PM (t : Nat → ClassId) (lo : Nat) (f : Nat → va_E) (g3 g4 : Nat → Int64) : Nat → va_E := va_up (va_up f (lo + 4) (.inl (t 1, 60, .inr (.inl g4)))) (lo + 3) (.inl (t 1, 240, .inr (.inl g3)))
theorem trm_34 : ∀ j : Fin 33, (Em.2.2.2[(j : Nat)]?.getD (0, 0)).1 ≠ 3 ∧ (Em.2.2.2[(j : Nat)]?.getD (0, 0)).1 ≠ 4 := by decide +kernel
theorem IM_PM {t : Nat → ClassId} {lo : Nat} {f : Nat → va_E} {g3 g4 : Nat → Int64} (hI : IM t lo f) : IM t lo (PM t lo f g3 g4) ∧ KP lo f (PM t lo f g3 g4) := by
  have ec : ∀ o k' : Nat, o ≠ 3 → o ≠ 4 → cv (PM t lo f g3 g4) (lo + o) k' = cv f (lo + o) k' := by
    intro o k' h1 h2
    unfold cv PM
    rw [va_up_ne _ _ (by omega), va_up_ne _ _ (by omega)]
  have e24 := ec 0 24 (by omega) (by omega)
  rw [show lo + 0 = lo from rfl] at e24
  refine ⟨⟨?_, GI_congr (fun k _ _ => ec 7 k (by omega) (by omega)) (fun k _ => ec 12 k (by omega) (by omega)) (fun k _ => ec 9 k (by omega) (by omega)) (fun k _ => ec 6 k (by omega) (by omega)) e24 (fun k _ => ec 14 k (by omega) (by omega)) (IM_10 hI) hI.2.1, fun j o k P hj hP => ?_⟩, fun k _ => ec 1 k (by omega) (by omega), fun k _ => ec 2 k (by omega) (by omega), fun k _ => ec 13 k (by omega) (by omega)⟩
  · exact TYP_up (i := 3) (TYP_up (i := 4) hI.1 rfl (rfl : Em.1[4]? = some _) ⟨g4, rfl, fun i _ => ⟨Int64.le_toInt _, Int64.toInt_le _⟩⟩) rfl (rfl : Em.1[3]? = some _) ⟨g3, rfl, fun i _ => ⟨Int64.le_toInt _, Int64.toInt_le _⟩⟩
  · have hlt : j < 33 := by rw [← trm_len]; exact (List.getElem?_eq_some_iff.mp hj).1
    have := trm_34 ⟨j, hlt⟩
    simp only [hj, Option.getD_some] at this
    unfold PM
    rw [va_up_ne _ _ (by omega), va_up_ne _ _ (by omega)]
    exact hI.2.2 j o k P hj hP
theorem PM_up3 {t : Nat → ClassId} {lo : Nat} {f : Nat → va_E} {g3 g4 g : Nat → Int64} : va_up (PM t lo f g3 g4) (lo + 3) (.inl (t 1, 240, .inr (.inl g))) = PM t lo f g g4 := by
  unfold PM
  rw [va_up_up]
theorem PM_up4 {t : Nat → ClassId} {lo : Nat} {f : Nat → va_E} {g3 g4 g : Nat → Int64} : va_up (PM t lo f g3 g4) (lo + 4) (.inl (t 1, 60, .inr (.inl g))) = PM t lo f g3 g := by
  funext x
  unfold PM
  by_cases c3 : x = lo + 3
  · subst c3
    rw [va_up_ne _ _ (by omega), va_up_self, va_up_self]
  · by_cases c4 : x = lo + 4
    · subst c4
      rw [va_up_self, va_up_ne _ _ (by omega), va_up_self]
    · rw [va_up_ne _ _ c4, va_up_ne _ _ c3, va_up_ne _ _ c4, va_up_ne _ _ c3, va_up_ne _ _ c4]
theorem add64 {a b : Int32} : (a.toInt64 + b.toInt64).toInt = a.toInt + b.toInt := by
  have z1 : lo64 = -9223372036854775808 := rfl
  have z2 : hi64 = 9223372036854775807 := rfl
  have b1 := i32_b a
  have b2 := i32_b b
  have y1 : lo32 = -2147483648 ∧ hi32 = 2147483647 := ⟨rfl, rfl⟩
  rw [Int64.toInt_add, Int32.toInt_toInt64, Int32.toInt_toInt64, bm64 (by omega) (by omega)]
abbrev Ypst : XY := (yX11_paste, cX11_paste, 7, some .int, 2)
abbrev PSZ (t : Nat → ClassId) (lo : Nat) (f : Nat → va_E) (a : Int) : Option Value → (Nat → va_E) → Prop := fun ov f2 => ∃ r : Int32, ov = some (.int r) ∧ r.toInt = a ∧ IM t lo f2 ∧ KP lo f f2
section
variable {p : Program} {l : Launch} {e : Env} {s0 : State} {m : MethodId} {args : Array Value} {below : List Frame} {meth : Method} {c : Code} {D : va_G} {t : Nat → ClassId} {lo : Nat} {f : Nat → va_E} {s i u k n : Nat} {fs : List Value} {Z : Option Value → (Nat → va_E) → Prop}
theorem ps_loop2 (X : CX p s0 m args meth c RX11 cX11_paste 7 (some .int)) (hs : u < 4) (r0 : f lo = .inr (11, fs)) (o3 : fs[3]? = some (.ref (lo + 3))) (o4 : fs[4]? = some (.ref (lo + 4))) (hn : k + n ≤ 60) (hZ : ∀ g3 g4, Z (some (.int 0)) (PM t lo f g3 g4)) : ∀ (d x : Nat) (g3 g4 : Nat → Int64) (H : Heap) (locs : List Loc) (ls : Array Slot), n ≤ x + d → x ≤ n → HX D t lo 17 (PM t lo f g3 g4) (px_A lo 17) s0 H locs → lv_has ls 7 [(6, .int (nI x)), (0, .ref lo), (1, .int (nI s)), (2, .int (nI i)), (3, .int (nI u)), (4, .int (nI k)), (5, .int (nI n))] → W p l e (px_rm 2) s0 m args below meth c H locs 0 0 (MQ below (QcZ D lo 17 Z) args s0 0 0 (px_A lo 17)) (F0 m 155 ls []) := by
  have k0 : ∀ g3 g4 : Nat → Int64, px_at lo 17 (PM t lo f g3 g4) lo (.inr (11, fs)) := fun g3 g4 => ⟨⟨by omega, by omega⟩, by unfold PM; rw [va_up_ne _ _ (by omega), va_up_ne _ _ (by omega)]; exact r0⟩
  intro d
  induction d with
  | zero =>
    intro x g3 g4 H locs ls hd hx hH hl
    refine lv_iload X.1 X.2.1 (show decode cX11_paste 155 = .ok (.iload 6, 2) by decide +kernel) (lv_at hl 0 rfl) ?_
    refine lv_iload X.1 X.2.1 (show decode cX11_paste 157 = .ok (.iload 5, 2) by decide +kernel) (lv_at hl 6 rfl) ?_
    refine lv_icmp_ge (tgt := 190) X.1 X.2.1 (show decode cX11_paste 159 = .ok (.if_icmp .ge 31, 3) by decide +kernel) (by decide) (fun q => ?_) (fun q => ?_)
    · refine lv_iconst (v := 0) X.1 X.2.1 (show decode cX11_paste 190 = .ok (.iconst 0, 1) by decide +kernel) (by decide) ?_
      exact z_iret X hH (hZ _ _) (show decode cX11_paste 191 = .ok (.ireturn, 1) by decide +kernel)
    · rw [nI_leI (by omega) (by omega)] at q
      exact absurd q (by omega)
  | succ d ih =>
    intro x g3 g4 H locs ls hd hx hH hl
    refine lv_iload X.1 X.2.1 (show decode cX11_paste 155 = .ok (.iload 6, 2) by decide +kernel) (lv_at hl 0 rfl) ?_
    refine lv_iload X.1 X.2.1 (show decode cX11_paste 157 = .ok (.iload 5, 2) by decide +kernel) (lv_at hl 6 rfl) ?_
    refine lv_icmp_ge (tgt := 190) X.1 X.2.1 (show decode cX11_paste 159 = .ok (.if_icmp .ge 31, 3) by decide +kernel) (by decide) (fun q => ?_) (fun q => ?_)
    · refine lv_iconst (v := 0) X.1 X.2.1 (show decode cX11_paste 190 = .ok (.iconst 0, 1) by decide +kernel) (by decide) ?_
      exact z_iret X hH (hZ _ _) (show decode cX11_paste 191 = .ok (.ireturn, 1) by decide +kernel)
    · rw [nI_leI (by omega) (by omega)] at q
      refine lv_aload_n X.1 X.2.1 (show decode cX11_paste 162 = .ok (.aload_n 0, 1) by decide +kernel) rfl (lv_at hl 1 rfl) ?_
      refine bx_get fl_X11_ok (i := 16) rfl X hH (k0 _ _) o3 (show decode cX11_paste 163 = .ok (.getfield 16, 3) by decide +kernel) ?_
      refine lv_bipush (v := 60) X.1 X.2.1 (show decode cX11_paste 166 = .ok (.bipush 60, 2) by decide +kernel) (by decide) ?_
      refine lv_iload_n X.1 X.2.1 (show decode cX11_paste 168 = .ok (.iload_n 3, 1) by decide +kernel) rfl (lv_at hl 4 rfl) ?_
      refine lv_imul X.1 X.2.1 (show decode cX11_paste 169 = .ok (.imul, 1) by decide +kernel) ?_
      refine lv_iload X.1 X.2.1 (show decode cX11_paste 170 = .ok (.iload 4, 2) by decide +kernel) (lv_at hl 5 rfl) ?_
      refine lv_iadd X.1 X.2.1 (show decode cX11_paste 172 = .ok (.iadd, 1) by decide +kernel) ?_
      refine lv_iload X.1 X.2.1 (show decode cX11_paste 173 = .ok (.iload 6, 2) by decide +kernel) (lv_at hl 0 rfl) ?_
      refine lv_iadd X.1 X.2.1 (show decode cX11_paste 175 = .ok (.iadd, 1) by decide +kernel) ?_
      rw [show (60 : Int32) = nI 60 from rfl, nI_mul, nI_add, nI_add]
      refine lv_aload_n X.1 X.2.1 (show decode cX11_paste 176 = .ok (.aload_n 0, 1) by decide +kernel) rfl (lv_at hl 1 rfl) ?_
      refine bx_get fl_M_ok (i := 20) rfl X hH (k0 _ _) o4 (show decode cX11_paste 177 = .ok (.getfield 20, 3) by decide +kernel) ?_
      refine lv_iload X.1 X.2.1 (show decode cX11_paste 180 = .ok (.iload 6, 2) by decide +kernel) (lv_at hl 0 rfl) ?_
      refine px_lald X hH (g := g4) (z := 60) ⟨⟨by omega, by omega⟩, by unfold PM; rw [va_up_ne _ _ (by omega), va_up_self]⟩ (nI_in (show x < 60 by omega) (by decide)) (show decode cX11_paste 182 = .ok (.laload, 1) by decide +kernel) ?_
      refine px_last X hH (g := g3) (z := 240) ⟨⟨by omega, by omega⟩, va_up_self ..⟩ (nI_in (show 60 * u + k + x < 240 by omega) (by decide)) (show decode cX11_paste 183 = .ok (.lastore, 1) by decide +kernel) (fun H1 locs1 h1 => ?_)
      rw [PM_up3] at h1
      refine lv_iinc (k := 0) X.1 X.2.1 (show decode cX11_paste 184 = .ok (.iinc 6 1, 3) by decide +kernel) hl rfl (show nI x + Int32.ofInt 1 = nI (x + 1) from nI_add x 1) (by decide) rfl (fun ls3 hl3 => ?_)
      refine lv_goto (tgt := 155) X.1 X.2.1 (show decode cX11_paste 187 = .ok (.goto (-32), 3) by decide +kernel) (by decide) ?_
      exact ih (x + 1) _ _ H1 locs1 ls3 (by omega) (by omega) h1 hl3
theorem ps_loop1 (X : CX p s0 m args meth c RX11 cX11_paste 7 (some .int)) (hs : u < 4) (hs1 : s < 4) (r0 : f lo = .inr (11, fs)) (o3 : fs[3]? = some (.ref (lo + 3))) (o4 : fs[4]? = some (.ref (lo + 4))) (hn : k + n ≤ 60) (hn1 : i + n ≤ 60) (hZ : ∀ g3 g4, Z (some (.int 0)) (PM t lo f g3 g4)) : ∀ (d x : Nat) (g3 g4 : Nat → Int64) (H : Heap) (locs : List Loc) (ls : Array Slot), n ≤ x + d → x ≤ n → HX D t lo 17 (PM t lo f g3 g4) (px_A lo 17) s0 H locs → lv_has ls 7 [(6, .int (nI x)), (0, .ref lo), (1, .int (nI s)), (2, .int (nI i)), (3, .int (nI u)), (4, .int (nI k)), (5, .int (nI n))] → W p l e (px_rm 2) s0 m args below meth c H locs 0 0 (MQ below (QcZ D lo 17 Z) args s0 0 0 (px_A lo 17)) (F0 m 118 ls []) := by
  have k0 : ∀ g3 g4 : Nat → Int64, px_at lo 17 (PM t lo f g3 g4) lo (.inr (11, fs)) := fun g3 g4 => ⟨⟨by omega, by omega⟩, by unfold PM; rw [va_up_ne _ _ (by omega), va_up_ne _ _ (by omega)]; exact r0⟩
  intro d
  induction d with
  | zero =>
    intro x g3 g4 H locs ls hd hx hH hl
    refine lv_iload X.1 X.2.1 (show decode cX11_paste 118 = .ok (.iload 6, 2) by decide +kernel) (lv_at hl 0 rfl) ?_
    refine lv_iload X.1 X.2.1 (show decode cX11_paste 120 = .ok (.iload 5, 2) by decide +kernel) (lv_at hl 6 rfl) ?_
    refine lv_icmp_ge (tgt := 152) X.1 X.2.1 (show decode cX11_paste 122 = .ok (.if_icmp .ge 30, 3) by decide +kernel) (by decide) (fun q => ?_) (fun q => ?_)
    · refine lv_iconst (v := 0) X.1 X.2.1 (show decode cX11_paste 152 = .ok (.iconst 0, 1) by decide +kernel) (by decide) ?_
      refine lv_istore X.1 X.2.1 (show decode cX11_paste 153 = .ok (.istore 6, 2) by decide +kernel) hl (by decide) rfl (fun ls hl => ?_)
      exact ps_loop2 X hs r0 o3 o4 hn hZ n 0 g3 g4 H locs ls (by omega) (by omega) hH hl
    · rw [nI_leI (by omega) (by omega)] at q
      exact absurd q (by omega)
  | succ d ih =>
    intro x g3 g4 H locs ls hd hx hH hl
    refine lv_iload X.1 X.2.1 (show decode cX11_paste 118 = .ok (.iload 6, 2) by decide +kernel) (lv_at hl 0 rfl) ?_
    refine lv_iload X.1 X.2.1 (show decode cX11_paste 120 = .ok (.iload 5, 2) by decide +kernel) (lv_at hl 6 rfl) ?_
    refine lv_icmp_ge (tgt := 152) X.1 X.2.1 (show decode cX11_paste 122 = .ok (.if_icmp .ge 30, 3) by decide +kernel) (by decide) (fun q => ?_) (fun q => ?_)
    · refine lv_iconst (v := 0) X.1 X.2.1 (show decode cX11_paste 152 = .ok (.iconst 0, 1) by decide +kernel) (by decide) ?_
      refine lv_istore X.1 X.2.1 (show decode cX11_paste 153 = .ok (.istore 6, 2) by decide +kernel) hl (by decide) rfl (fun ls hl => ?_)
      exact ps_loop2 X hs r0 o3 o4 hn hZ n 0 g3 g4 H locs ls (by omega) (by omega) hH hl
    · rw [nI_leI (by omega) (by omega)] at q
      refine lv_aload_n X.1 X.2.1 (show decode cX11_paste 125 = .ok (.aload_n 0, 1) by decide +kernel) rfl (lv_at hl 1 rfl) ?_
      refine bx_get fl_M_ok (i := 20) rfl X hH (k0 _ _) o4 (show decode cX11_paste 126 = .ok (.getfield 20, 3) by decide +kernel) ?_
      refine lv_iload X.1 X.2.1 (show decode cX11_paste 129 = .ok (.iload 6, 2) by decide +kernel) (lv_at hl 0 rfl) ?_
      refine lv_aload_n X.1 X.2.1 (show decode cX11_paste 131 = .ok (.aload_n 0, 1) by decide +kernel) rfl (lv_at hl 1 rfl) ?_
      refine bx_get fl_X11_ok (i := 16) rfl X hH (k0 _ _) o3 (show decode cX11_paste 132 = .ok (.getfield 16, 3) by decide +kernel) ?_
      refine lv_bipush (v := 60) X.1 X.2.1 (show decode cX11_paste 135 = .ok (.bipush 60, 2) by decide +kernel) (by decide) ?_
      refine lv_iload_n X.1 X.2.1 (show decode cX11_paste 137 = .ok (.iload_n 1, 1) by decide +kernel) rfl (lv_at hl 2 rfl) ?_
      refine lv_imul X.1 X.2.1 (show decode cX11_paste 138 = .ok (.imul, 1) by decide +kernel) ?_
      refine lv_iload_n X.1 X.2.1 (show decode cX11_paste 139 = .ok (.iload_n 2, 1) by decide +kernel) rfl (lv_at hl 3 rfl) ?_
      refine lv_iadd X.1 X.2.1 (show decode cX11_paste 140 = .ok (.iadd, 1) by decide +kernel) ?_
      refine lv_iload X.1 X.2.1 (show decode cX11_paste 141 = .ok (.iload 6, 2) by decide +kernel) (lv_at hl 0 rfl) ?_
      refine lv_iadd X.1 X.2.1 (show decode cX11_paste 143 = .ok (.iadd, 1) by decide +kernel) ?_
      rw [show (60 : Int32) = nI 60 from rfl, nI_mul, nI_add, nI_add]
      refine px_lald X hH (g := g3) (z := 240) ⟨⟨by omega, by omega⟩, va_up_self ..⟩ (nI_in (show 60 * s + i + x < 240 by omega) (by decide)) (show decode cX11_paste 144 = .ok (.laload, 1) by decide +kernel) ?_
      refine px_last X hH (g := g4) (z := 60) ⟨⟨by omega, by omega⟩, by unfold PM; rw [va_up_ne _ _ (by omega), va_up_self]⟩ (nI_in (show x < 60 by omega) (by decide)) (show decode cX11_paste 145 = .ok (.lastore, 1) by decide +kernel) (fun H1 locs1 h1 => ?_)
      rw [PM_up4] at h1
      refine lv_iinc (k := 0) X.1 X.2.1 (show decode cX11_paste 146 = .ok (.iinc 6 1, 3) by decide +kernel) hl rfl (show nI x + Int32.ofInt 1 = nI (x + 1) from nI_add x 1) (by decide) rfl (fun ls3 hl3 => ?_)
      refine lv_goto (tgt := 118) X.1 X.2.1 (show decode cX11_paste 149 = .ok (.goto (-31), 3) by decide +kernel) (by decide) ?_
      exact ih (x + 1) _ _ H1 locs1 ls3 (by omega) (by omega) h1 hl3
end
theorem R_paste (l : Launch) (D : va_G) (t : Nat → ClassId) (lo : Nat) {f : Nat → va_E} (hI : IM t lo f) (a b c2 d2 e2 : Int32) : MetZ l Ypst D t lo 17 f [.ref lo, .int a, .int b, .int c2, .int d2, .int e2] (PSZ t lo f (pstA (fun z => cv f (lo + 1) z.toNat) (fun z => cv f (lo + 2) z.toNat) a.toInt b.toInt c2.toInt d2.toInt e2.toInt)) := by
  obtain ⟨fs, o0, o49, orf⟩ := typ_refs hI.1
  obtain ⟨J, JK⟩ := IM_thr hI o0
  refine MetZ.beg (by decide +kernel) (Nat.le_of_ble_eq_true rfl) ?_
  intro p e s0 m below meth c X hH ls hl
  have hl : lv_has ls 7 [(0, .ref lo), (1, .int a), (2, .int b), (3, .int c2), (4, .int d2), (5, .int e2)] := hl
  refine lv_aload_n X.1 X.2.1 (show decode cX11_paste 0 = .ok (.aload_n 0, 1) by decide +kernel) rfl (lv_at hl 0 rfl) ?_
  refine lv_iconst (v := 0) X.1 X.2.1 (show decode cX11_paste 1 = .ok (.iconst 0, 1) by decide +kernel) (by decide) ?_
  refine bx_puti fl_X11_ok (i := 65) rfl X hH ⟨⟨by omega, by omega⟩, o0⟩ (by omega) (show decode cX11_paste 2 = .ok (.putfield 65, 3) by decide +kernel) (fun H1 locs1 hH => ?_)
  generalize hf1 : va_up f lo (.inr (11, fs.set 0 (.int 0))) = f1 at hH J JK
  obtain ⟨fs1, r0, r49, rrf⟩ := typ_refs J.1
  have k0 : px_at lo 17 f1 lo (.inr (11, fs1)) := ⟨⟨by omega, by omega⟩, r0⟩
  obtain ⟨g1, p1, -⟩ := (cok_arr (by decide)).mp (typ_at J.1 (i := 1) (k := 1) rfl (rfl : Em.1[1]? = some _))
  obtain ⟨g2, p2, p2b, -⟩ := (cok_arr (by decide)).mp (typ_at J.1 (i := 2) (k := 2) rfl (rfl : Em.1[2]? = some _))
  obtain ⟨g3, p3, -⟩ := typ_at J.1 (i := 3) (k := 3) rfl (rfl : Em.1[3]? = some _)
  obtain ⟨g4, p4, -⟩ := typ_at J.1 (i := 4) (k := 4) rfl (rfl : Em.1[4]? = some _)
  have o1 : fs1[1]? = some (.ref (lo + 1)) := rrf 1 1 ⟨_, rfl, rfl⟩ (by decide)
  have o2 : fs1[2]? = some (.ref (lo + 2)) := rrf 2 2 ⟨_, rfl, rfl⟩ (by decide)
  generalize hA : pstA (fun z => cv f (lo + 1) z.toNat) (fun z => cv f (lo + 2) z.toNat) a.toInt b.toInt c2.toInt d2.toInt e2.toInt = A
  unfold pstA at hA
  have bad : ∀ (r : Int32) (H2 : Heap) (locs2 : List Loc) (pc : Nat), r.toInt = A → HX D t lo 17 f1 (px_A lo 17) s0 H2 locs2 → decode cX11_paste pc = .ok (.ireturn, 1) → W p l e (px_rm 2) s0 m [Value.ref lo, .int a, .int b, .int c2, .int d2, .int e2].toArray below meth c H2 locs2 0 0 (MQ below (QcZ D lo 17 (PSZ t lo f A)) [Value.ref lo, .int a, .int b, .int c2, .int d2, .int e2].toArray s0 0 0 (px_A lo 17)) (F0 m pc ls [.int r]) := fun r H2 locs2 pc hr hH2 hd => z_iret X hH2 ⟨r, rfl, hr, J, JK⟩ hd
  have b2 : -2 = A → ∀ (H2 : Heap) (locs2 : List Loc), HX D t lo 17 f1 (px_A lo 17) s0 H2 locs2 → W p l e (px_rm 2) s0 m [Value.ref lo, .int a, .int b, .int c2, .int d2, .int e2].toArray below meth c H2 locs2 0 0 (MQ below (QcZ D lo 17 (PSZ t lo f A)) [Value.ref lo, .int a, .int b, .int c2, .int d2, .int e2].toArray s0 0 0 (px_A lo 17)) (F0 m 19 ls []) := by
    intro hv H2 locs2 hH2
    refine lv_bipush (v := -2) X.1 X.2.1 (show decode cX11_paste 19 = .ok (.bipush (-2), 2) by decide +kernel) (by decide) ?_
    exact bad (-2) H2 locs2 21 (by rw [← hv]; rfl) hH2 (show decode cX11_paste 21 = .ok (.ireturn, 1) by decide +kernel)
  have b6 : -6 = A → ∀ (H2 : Heap) (locs2 : List Loc), HX D t lo 17 f1 (px_A lo 17) s0 H2 locs2 → W p l e (px_rm 2) s0 m [Value.ref lo, .int a, .int b, .int c2, .int d2, .int e2].toArray below meth c H2 locs2 0 0 (MQ below (QcZ D lo 17 (PSZ t lo f A)) [Value.ref lo, .int a, .int b, .int c2, .int d2, .int e2].toArray s0 0 0 (px_A lo 17)) (F0 m 42 ls []) := by
    intro hv H2 locs2 hH2
    refine lv_bipush (v := -6) X.1 X.2.1 (show decode cX11_paste 42 = .ok (.bipush (-6), 2) by decide +kernel) (by decide) ?_
    exact bad (-6) H2 locs2 44 (by rw [← hv]; rfl) hH2 (show decode cX11_paste 44 = .ok (.ireturn, 1) by decide +kernel)
  have b8 : -8 = A → ∀ (H2 : Heap) (locs2 : List Loc), HX D t lo 17 f1 (px_A lo 17) s0 H2 locs2 → W p l e (px_rm 2) s0 m [Value.ref lo, .int a, .int b, .int c2, .int d2, .int e2].toArray below meth c H2 locs2 0 0 (MQ below (QcZ D lo 17 (PSZ t lo f A)) [Value.ref lo, .int a, .int b, .int c2, .int d2, .int e2].toArray s0 0 0 (px_A lo 17)) (F0 m 60 ls []) := by
    intro hv H2 locs2 hH2
    refine lv_bipush (v := -8) X.1 X.2.1 (show decode cX11_paste 60 = .ok (.bipush (-8), 2) by decide +kernel) (by decide) ?_
    exact bad (-8) H2 locs2 62 (by rw [← hv]; rfl) hH2 (show decode cX11_paste 62 = .ok (.ireturn, 1) by decide +kernel)
  have b7 : -7 = A → ∀ (H2 : Heap) (locs2 : List Loc), HX D t lo 17 f1 (px_A lo 17) s0 H2 locs2 → W p l e (px_rm 2) s0 m [Value.ref lo, .int a, .int b, .int c2, .int d2, .int e2].toArray below meth c H2 locs2 0 0 (MQ below (QcZ D lo 17 (PSZ t lo f A)) [Value.ref lo, .int a, .int b, .int c2, .int d2, .int e2].toArray s0 0 0 (px_A lo 17)) (F0 m 112 ls []) := by
    intro hv H2 locs2 hH2
    refine lv_bipush (v := -7) X.1 X.2.1 (show decode cX11_paste 112 = .ok (.bipush (-7), 2) by decide +kernel) (by decide) ?_
    exact bad (-7) H2 locs2 114 (by rw [← hv]; rfl) hH2 (show decode cX11_paste 114 = .ok (.ireturn, 1) by decide +kernel)
  refine lv_iload_n X.1 X.2.1 (show decode cX11_paste 5 = .ok (.iload_n 1, 1) by decide +kernel) rfl (lv_at hl 1 rfl) ?_
  refine px_callS (k := 1) (idx := 74) (na := 1) (As := [.int a]) (rest := []) X hH (c_isSlot l D t lo 17 f1 a) mw_1412 mw_1413 mw_12 mw_1414 (by decide +kernel) ⟨by decide, by decide⟩ ⟨Nat.le_refl _, Nat.le_refl _⟩ hl.1 rfl rfl (by decide) (show decode cX11_paste 6 = .ok (.invokestatic 74, 3) by decide +kernel) (fun H2 locs2 hH _ => ?_)
  refine lv_if_eq (tgt := 19) X.1 X.2.1 (show decode cX11_paste 9 = .ok (.ifCond .eq 10, 3) by decide +kernel) (by decide) (fun z => b2 ?_ H2 locs2 hH) (fun z => ?_)
  · have hn : ¬ ((0 : Int64) ≤ a.toInt64 ∧ a.toInt64 ≤ Int64.ofNat 3) := fun h => by rw [if_pos (show (0 : Int64) ≤ a.toInt64 ∧ a.toInt64 ≤ 3 from h)] at z; exact absurd z (by decide)
    have := not_in_k (by decide) hn
    unfold pstB at hA
    rw [if_pos (Or.inl (by omega))] at hA
    exact hA
  have hys : (0 : Int64) ≤ a.toInt64 ∧ a.toInt64 ≤ Int64.ofNat 3 := by
    by_cases h : (0 : Int64) ≤ a.toInt64 ∧ a.toInt64 ≤ 3
    · exact h
    · rw [if_neg h] at z; exact absurd rfl z
  obtain ⟨s, hs, rfl⟩ := in_k (by decide) hys
  refine lv_iload_n X.1 X.2.1 (show decode cX11_paste 12 = .ok (.iload_n 3, 1) by decide +kernel) rfl (lv_at hl 3 rfl) ?_
  refine px_callS (k := 1) (idx := 74) (na := 1) (As := [.int c2]) (rest := []) X hH (c_isSlot l D t lo 17 f1 c2) mw_1412 mw_1413 mw_12 mw_1414 (by decide +kernel) ⟨by decide, by decide⟩ ⟨Nat.le_refl _, Nat.le_refl _⟩ hl.1 rfl rfl (by decide) (show decode cX11_paste 13 = .ok (.invokestatic 74, 3) by decide +kernel) (fun H3 locs3 hH _ => ?_)
  refine lv_if_ne (tgt := 22) X.1 X.2.1 (show decode cX11_paste 16 = .ok (.ifCond .ne 6, 3) by decide +kernel) (by decide) (fun z2 => ?_) (fun z2 => b2 ?_ H3 locs3 hH)
  rotate_left
  · have hn : ¬ ((0 : Int64) ≤ c2.toInt64 ∧ c2.toInt64 ≤ Int64.ofNat 3) := fun h => by rw [if_pos (show (0 : Int64) ≤ c2.toInt64 ∧ c2.toInt64 ≤ 3 from h)] at z2; exact absurd z2 (by decide)
    have := not_in_k (by decide) hn
    unfold pstB at hA
    rw [if_pos (Or.inr (by omega))] at hA
    exact hA
  have hyu : (0 : Int64) ≤ c2.toInt64 ∧ c2.toInt64 ≤ Int64.ofNat 3 := by
    by_cases h : (0 : Int64) ≤ c2.toInt64 ∧ c2.toInt64 ≤ 3
    · exact h
    · rw [if_neg h] at z2; exact absurd rfl z2
  obtain ⟨u, hu, rfl⟩ := in_k (by decide) hyu
  have es : (nI s).toInt = (s : Int) := nI_toInt (by omega)
  have eu : (nI u).toInt = (u : Int) := nI_toInt (by omega)
  rw [es, eu] at hA
  simp only [Int.toNat_natCast] at hA
  rw [← JK.1 s (by omega), ← JK.1 u (by omega), ← JK.2.1 s (by omega), ← JK.2.1 u (by omega), cv_arr p1 (by omega), cv_arr p1 (by omega), cv_arr p2 (by omega), cv_arr p2 (by omega)] at hA
  unfold pstB at hA
  rw [if_neg (by omega)] at hA
  refine lv_aload_n X.1 X.2.1 (show decode cX11_paste 22 = .ok (.aload_n 0, 1) by decide +kernel) rfl (lv_at hl 0 rfl) ?_
  refine bx_get fl_X11_ok (i := 7) rfl X hH k0 o1 (show decode cX11_paste 23 = .ok (.getfield 7, 3) by decide +kernel) ?_
  refine lv_iload_n X.1 X.2.1 (show decode cX11_paste 26 = .ok (.iload_n 1, 1) by decide +kernel) rfl (lv_at hl 1 rfl) ?_
  refine bx_iald X hH ⟨⟨by omega, by omega⟩, p1⟩ (j := s) rfl (by omega) (by decide) (show decode cX11_paste 27 = .ok (.iaload, 1) by decide +kernel) ?_
  refine lv_iconst (v := (-1)) X.1 X.2.1 (show decode cX11_paste 28 = .ok (.iconst (-1), 1) by decide +kernel) (by decide) ?_
  refine lv_icmp_eq (tgt := 42) X.1 X.2.1 (show decode cX11_paste 29 = .ok (.if_icmp .eq 13, 3) by decide +kernel) (by decide) (fun z3 => b6 ?_ H3 locs3 hH) (fun z3 => ?_)
  · rw [if_pos (Or.inl (by rw [z3]; rfl))] at hA; exact hA
  refine lv_aload_n X.1 X.2.1 (show decode cX11_paste 32 = .ok (.aload_n 0, 1) by decide +kernel) rfl (lv_at hl 0 rfl) ?_
  refine bx_get fl_X11_ok (i := 7) rfl X hH k0 o1 (show decode cX11_paste 33 = .ok (.getfield 7, 3) by decide +kernel) ?_
  refine lv_iload_n X.1 X.2.1 (show decode cX11_paste 36 = .ok (.iload_n 3, 1) by decide +kernel) rfl (lv_at hl 3 rfl) ?_
  refine bx_iald X hH ⟨⟨by omega, by omega⟩, p1⟩ (j := u) rfl (by omega) (by decide) (show decode cX11_paste 37 = .ok (.iaload, 1) by decide +kernel) ?_
  refine lv_iconst (v := (-1)) X.1 X.2.1 (show decode cX11_paste 38 = .ok (.iconst (-1), 1) by decide +kernel) (by decide) ?_
  refine lv_icmp_ne (tgt := 45) X.1 X.2.1 (show decode cX11_paste 39 = .ok (.if_icmp .ne 6, 3) by decide +kernel) (by decide) (fun z4 => ?_) (fun z4 => b6 ?_ H3 locs3 hH)
  rotate_left
  · rw [if_pos (Or.inr (by rw [z4]; rfl))] at hA; exact hA
  have n3 : (g1 s).toInt ≠ -1 := fun h => z3 (Int32.toInt_inj.mp (by rw [h]; rfl))
  have n4 : (g1 u).toInt ≠ -1 := fun h => z4 (Int32.toInt_inj.mp (by rw [h]; rfl))
  rw [if_neg (by omega)] at hA
  refine lv_aload_n X.1 X.2.1 (show decode cX11_paste 45 = .ok (.aload_n 0, 1) by decide +kernel) rfl (lv_at hl 0 rfl) ?_
  refine bx_get fl_X11_ok (i := 7) rfl X hH k0 o1 (show decode cX11_paste 46 = .ok (.getfield 7, 3) by decide +kernel) ?_
  refine lv_iload_n X.1 X.2.1 (show decode cX11_paste 49 = .ok (.iload_n 1, 1) by decide +kernel) rfl (lv_at hl 1 rfl) ?_
  refine bx_iald X hH ⟨⟨by omega, by omega⟩, p1⟩ (j := s) rfl (by omega) (by decide) (show decode cX11_paste 50 = .ok (.iaload, 1) by decide +kernel) ?_
  refine lv_aload_n X.1 X.2.1 (show decode cX11_paste 51 = .ok (.aload_n 0, 1) by decide +kernel) rfl (lv_at hl 0 rfl) ?_
  refine bx_get fl_X11_ok (i := 7) rfl X hH k0 o1 (show decode cX11_paste 52 = .ok (.getfield 7, 3) by decide +kernel) ?_
  refine lv_iload_n X.1 X.2.1 (show decode cX11_paste 55 = .ok (.iload_n 3, 1) by decide +kernel) rfl (lv_at hl 3 rfl) ?_
  refine bx_iald X hH ⟨⟨by omega, by omega⟩, p1⟩ (j := u) rfl (by omega) (by decide) (show decode cX11_paste 56 = .ok (.iaload, 1) by decide +kernel) ?_
  refine lv_icmp_eq (tgt := 63) X.1 X.2.1 (show decode cX11_paste 57 = .ok (.if_icmp .eq 6, 3) by decide +kernel) (by decide) (fun z5 => ?_) (fun z5 => b8 ?_ H3 locs3 hH)
  rotate_left
  · rw [if_pos (fun h => z5 (Int32.toInt_inj.mp h))] at hA; exact hA
  rw [if_neg (by rw [z5]; exact fun h => h rfl)] at hA
  refine lv_iload_n X.1 X.2.1 (show decode cX11_paste 63 = .ok (.iload_n 2, 1) by decide +kernel) rfl (lv_at hl 2 rfl) ?_
  refine lv_if_lt (tgt := 112) X.1 X.2.1 (show decode cX11_paste 64 = .ok (.ifCond .lt 48, 3) by decide +kernel) (by decide) (fun z6 => b7 ?_ H3 locs3 hH) (fun z6 => ?_)
  · rw [Int32.lt_iff_toInt_lt, show (0 : Int32).toInt = 0 from rfl] at z6
    rw [if_pos (by omega)] at hA; exact hA
  rw [Int32.lt_iff_toInt_lt, show (0 : Int32).toInt = 0 from rfl] at z6
  refine lv_iload X.1 X.2.1 (show decode cX11_paste 67 = .ok (.iload 4, 2) by decide +kernel) (lv_at hl 4 rfl) ?_
  refine lv_if_lt (tgt := 112) X.1 X.2.1 (show decode cX11_paste 69 = .ok (.ifCond .lt 43, 3) by decide +kernel) (by decide) (fun z7 => b7 ?_ H3 locs3 hH) (fun z7 => ?_)
  · rw [Int32.lt_iff_toInt_lt, show (0 : Int32).toInt = 0 from rfl] at z7
    rw [if_pos (by omega)] at hA; exact hA
  rw [Int32.lt_iff_toInt_lt, show (0 : Int32).toInt = 0 from rfl] at z7
  refine lv_iload X.1 X.2.1 (show decode cX11_paste 72 = .ok (.iload 5, 2) by decide +kernel) (lv_at hl 5 rfl) ?_
  refine lv_if_lt (tgt := 112) X.1 X.2.1 (show decode cX11_paste 74 = .ok (.ifCond .lt 38, 3) by decide +kernel) (by decide) (fun z8 => b7 ?_ H3 locs3 hH) (fun z8 => ?_)
  · rw [Int32.lt_iff_toInt_lt, show (0 : Int32).toInt = 0 from rfl] at z8
    rw [if_pos (by omega)] at hA; exact hA
  rw [Int32.lt_iff_toInt_lt, show (0 : Int32).toInt = 0 from rfl] at z8
  refine lv_iload_n X.1 X.2.1 (show decode cX11_paste 77 = .ok (.iload_n 2, 1) by decide +kernel) rfl (lv_at hl 2 rfl) ?_
  refine lv_i2l (v := b.toInt64) X.1 X.2.1 (show decode cX11_paste 78 = .ok (.i2l, 1) by decide +kernel) rfl ?_
  refine lv_iload X.1 X.2.1 (show decode cX11_paste 79 = .ok (.iload 5, 2) by decide +kernel) (lv_at hl 5 rfl) ?_
  refine lv_i2l (v := e2.toInt64) X.1 X.2.1 (show decode cX11_paste 81 = .ok (.i2l, 1) by decide +kernel) rfl ?_
  refine lv_ladd X.1 X.2.1 (show decode cX11_paste 82 = .ok (.ladd, 1) by decide +kernel) ?_
  refine lv_aload_n X.1 X.2.1 (show decode cX11_paste 83 = .ok (.aload_n 0, 1) by decide +kernel) rfl (lv_at hl 0 rfl) ?_
  refine bx_get fl_X11_ok (i := 13) rfl X hH k0 o2 (show decode cX11_paste 84 = .ok (.getfield 13, 3) by decide +kernel) ?_
  refine lv_iload_n X.1 X.2.1 (show decode cX11_paste 87 = .ok (.iload_n 1, 1) by decide +kernel) rfl (lv_at hl 1 rfl) ?_
  refine bx_iald X hH ⟨⟨by omega, by omega⟩, p2⟩ (j := s) rfl (by omega) (by decide) (show decode cX11_paste 88 = .ok (.iaload, 1) by decide +kernel) ?_
  refine lv_i2l (v := (g2 s).toInt64) X.1 X.2.1 (show decode cX11_paste 89 = .ok (.i2l, 1) by decide +kernel) rfl ?_
  refine W.lcmp X.1 X.2.1 (show decode cX11_paste 90 = .ok (.lcmp, 1) by decide +kernel) ?_
  refine lv_if_gt (tgt := 112) X.1 X.2.1 (show decode cX11_paste 91 = .ok (.ifCond .gt 21, 3) by decide +kernel) (by decide) (fun z9 => b7 ?_ H3 locs3 hH) (fun z9 => ?_)
  · rw [lg_cmp_gt, Int64.lt_iff_toInt_lt, add64, Int32.toInt_toInt64] at z9
    rw [if_pos (by omega)] at hA; exact hA
  rw [lg_cmp_gt, Int64.lt_iff_toInt_lt, add64, Int32.toInt_toInt64] at z9
  refine lv_iload X.1 X.2.1 (show decode cX11_paste 94 = .ok (.iload 4, 2) by decide +kernel) (lv_at hl 4 rfl) ?_
  refine lv_i2l (v := d2.toInt64) X.1 X.2.1 (show decode cX11_paste 96 = .ok (.i2l, 1) by decide +kernel) rfl ?_
  refine lv_iload X.1 X.2.1 (show decode cX11_paste 97 = .ok (.iload 5, 2) by decide +kernel) (lv_at hl 5 rfl) ?_
  refine lv_i2l (v := e2.toInt64) X.1 X.2.1 (show decode cX11_paste 99 = .ok (.i2l, 1) by decide +kernel) rfl ?_
  refine lv_ladd X.1 X.2.1 (show decode cX11_paste 100 = .ok (.ladd, 1) by decide +kernel) ?_
  refine lv_aload_n X.1 X.2.1 (show decode cX11_paste 101 = .ok (.aload_n 0, 1) by decide +kernel) rfl (lv_at hl 0 rfl) ?_
  refine bx_get fl_X11_ok (i := 13) rfl X hH k0 o2 (show decode cX11_paste 102 = .ok (.getfield 13, 3) by decide +kernel) ?_
  refine lv_iload_n X.1 X.2.1 (show decode cX11_paste 105 = .ok (.iload_n 3, 1) by decide +kernel) rfl (lv_at hl 3 rfl) ?_
  refine bx_iald X hH ⟨⟨by omega, by omega⟩, p2⟩ (j := u) rfl (by omega) (by decide) (show decode cX11_paste 106 = .ok (.iaload, 1) by decide +kernel) ?_
  refine lv_i2l (v := (g2 u).toInt64) X.1 X.2.1 (show decode cX11_paste 107 = .ok (.i2l, 1) by decide +kernel) rfl ?_
  refine W.lcmp X.1 X.2.1 (show decode cX11_paste 108 = .ok (.lcmp, 1) by decide +kernel) ?_
  refine lv_if_le (tgt := 115) X.1 X.2.1 (show decode cX11_paste 109 = .ok (.ifCond .le 6, 3) by decide +kernel) (by decide) (fun za => ?_) (fun za => b7 ?_ H3 locs3 hH)
  rotate_left
  · rw [lg_cmp_le, Int64.le_iff_toInt_le, add64, Int32.toInt_toInt64] at za
    rw [if_pos (by omega)] at hA; exact hA
  rw [lg_cmp_le, Int64.le_iff_toInt_le, add64, Int32.toInt_toInt64] at za
  rw [if_neg (by omega)] at hA
  have m1 := p2b s (by omega)
  have m2 := p2b u (by omega)
  obtain ⟨i, ei⟩ : ∃ i : Nat, b.toInt = (i : Int) := ⟨b.toInt.toNat, by omega⟩
  have fi := toI ei (by omega)
  subst fi
  obtain ⟨k, ek⟩ : ∃ k : Nat, d2.toInt = (k : Int) := ⟨d2.toInt.toNat, by omega⟩
  have fk := toI ek (by omega)
  subst fk
  obtain ⟨n, en⟩ : ∃ n : Nat, e2.toInt = (n : Int) := ⟨e2.toInt.toNat, by omega⟩
  have fn := toI en (by omega)
  subst fn
  refine lv_iconst (v := 0) X.1 X.2.1 (show decode cX11_paste 115 = .ok (.iconst 0, 1) by decide +kernel) (by decide) ?_
  refine lv_istore X.1 X.2.1 (show decode cX11_paste 116 = .ok (.istore 6, 2) by decide +kernel) hl (by decide) rfl (fun ls hl => ?_)
  have hPM : PM t lo f1 g3 g4 = f1 := by
    unfold PM
    rw [px_upsame p4, px_upsame p3]
  rw [← hPM] at hH
  exact ps_loop1 (s := s) (i := i) (u := u) (k := k) (n := n) X (by omega) (by omega) r0 (rrf 3 3 ⟨_, rfl, rfl⟩ (by decide)) (rrf 4 4 ⟨_, rfl, rfl⟩ (by decide)) (by omega) (by omega) (fun g3 g4 => ⟨0, rfl, by rw [← hA]; rfl, (IM_PM J).1, KP_tr JK (IM_PM J).2⟩) n 0 g3 g4 H3 locs3 ls (by omega) (by omega) hH hl
