/-! in, copyRow, copyTown -/
theorem mw_1567 : Jvm.Cond.methodLink "BellMoneyModel" (239 : Nat) ({ cls := "BellMoneyModel", name := "copyTown", desc := "(II)V" } : Jvm.MethodName) ∈ Wd := List.mem_filter.mpr ⟨List.mem_of_getElem? (i := 1669) (by decide +kernel), by decide +kernel⟩
theorem mw_1569 : Jvm.Cond.instanceMethod ({ cls := "BellMoneyModel", name := "copyTown", desc := "(II)V" } : Jvm.MethodName) ∈ Wd := List.mem_filter.mpr ⟨List.mem_of_getElem? (i := 1671) (by decide +kernel), by decide +kernel⟩
theorem mw_1570 : Jvm.Cond.code ({ cls := "BellMoneyModel", name := "copyTown", desc := "(II)V" } : Jvm.MethodName) prog_13_method_38_code (3 : Nat) (Option.none : Option Jvm.ClassFile.FieldType) ∈ Wd := List.mem_filter.mpr ⟨List.mem_of_getElem? (i := 1672) (by decide +kernel), by decide +kernel⟩
theorem ms_59 : Cond.selects "BellMoneyModel" ⟨"BellMoneyModel", "copyTown", "(II)V"⟩ ⟨"BellMoneyModel", "copyTown", "(II)V"⟩ ∈ Wd := List.mem_filter.mpr ⟨List.mem_of_getElem? (i := 59) (by decide +kernel), by decide +kernel⟩
theorem mw_1571 : Jvm.Cond.methodLink "BellMoneyModel" (242 : Nat) ({ cls := "BellMoneyModel", name := "copyRow", desc := "([IIII)V" } : Jvm.MethodName) ∈ Wd := List.mem_filter.mpr ⟨List.mem_of_getElem? (i := 1673) (by decide +kernel), by decide +kernel⟩
theorem mw_1572 : Jvm.Cond.static ({ cls := "BellMoneyModel", name := "copyRow", desc := "([IIII)V" } : Jvm.MethodName) ∈ Wd := List.mem_filter.mpr ⟨List.mem_of_getElem? (i := 1674) (by decide +kernel), by decide +kernel⟩
theorem mw_1573 : Jvm.Cond.code ({ cls := "BellMoneyModel", name := "copyRow", desc := "([IIII)V" } : Jvm.MethodName) prog_13_method_37_code (5 : Nat) (Option.none : Option Jvm.ClassFile.FieldType) ∈ Wd := List.mem_filter.mpr ⟨List.mem_of_getElem? (i := 1675) (by decide +kernel), by decide +kernel⟩
theorem c_in (l : Launch) (D : va_G) (t : Nat → ClassId) (lo n : Nat) (f : Nat → va_E) (v a b : Int64) : MetM l yX11_in cX11_in 6 (some .boolean) 0 D t lo n f [.long v, .long a, .long b] f (some (.int (if a ≤ v ∧ v ≤ b then 1 else 0))) := by
  refine MetM.start (by decide +kernel) (Nat.le_of_ble_eq_true rfl) ?_
  intro p e s m below meth cd X hH ls hl
  have hl : lv_has ls 6 [(0, .long v), (2, .long a), (4, .long b)] := hl
  have no : ¬ (a ≤ v ∧ v ≤ b) → W p l e (px_rm 0) s m [Value.long v, .long a, .long b].toArray below meth cd s.heap [] 0 0 (MQ below (QcM D lo n f (some (.int (if a ≤ v ∧ v ≤ b then 1 else 0)))) [Value.long v, .long a, .long b].toArray s 0 0 (px_A lo n)) (F0 m 17 ls []) := by
    intro q
    refine lv_iconst (v := 0) X.1 X.2.1 (show decode cX11_in 17 = .ok (.iconst 0, 1) by decide +kernel) (by decide) ?_
    exact px_zret X hH (by rw [if_neg q]) rfl (show decode cX11_in 18 = .ok (.ireturn, 1) by decide +kernel)
  refine lv_lload_n X.1 X.2.1 (show decode cX11_in 0 = .ok (.lload_n 0, 1) by decide +kernel) rfl (lv_at hl 0 rfl) ?_
  refine lv_lload_n X.1 X.2.1 (show decode cX11_in 1 = .ok (.lload_n 2, 1) by decide +kernel) rfl (lv_at hl 1 rfl) ?_
  refine W.lcmp X.1 X.2.1 (show decode cX11_in 2 = .ok (.lcmp, 1) by decide +kernel) ?_
  refine lv_if_lt (tgt := 17) X.1 X.2.1 (show decode cX11_in 3 = .ok (.ifCond .lt 14, 3) by decide +kernel) (by decide) (fun q => no ?_) (fun q => ?_)
  · rw [lg_cmp_lt] at q
    exact fun z => absurd z.1 (Int64.not_le.mpr q)
  rw [lg_cmp_lt] at q
  refine lv_lload_n X.1 X.2.1 (show decode cX11_in 6 = .ok (.lload_n 0, 1) by decide +kernel) rfl (lv_at hl 0 rfl) ?_
  refine lv_lload X.1 X.2.1 (show decode cX11_in 7 = .ok (.lload 4, 2) by decide +kernel) (lv_at hl 2 rfl) ?_
  refine W.lcmp X.1 X.2.1 (show decode cX11_in 9 = .ok (.lcmp, 1) by decide +kernel) ?_
  refine lv_if_gt (tgt := 17) X.1 X.2.1 (show decode cX11_in 10 = .ok (.ifCond .gt 7, 3) by decide +kernel) (by decide) (fun q2 => no ?_) (fun q2 => ?_)
  · rw [lg_cmp_gt] at q2
    exact fun z => absurd z.2 (Int64.not_le.mpr q2)
  rw [lg_cmp_gt] at q2
  refine lv_iconst (v := 1) X.1 X.2.1 (show decode cX11_in 13 = .ok (.iconst 1, 1) by decide +kernel) (by decide) ?_
  refine lv_goto (tgt := 18) X.1 X.2.1 (show decode cX11_in 14 = .ok (.goto 4, 3) by decide +kernel) (by decide) ?_
  exact px_zret X hH (by rw [if_pos ⟨Int64.not_lt.mp q, Int64.not_lt.mp q2⟩]) rfl (show decode cX11_in 18 = .ok (.ireturn, 1) by decide +kernel)
/-- K numbers from A on, to B on -/
def cpy (g : Nat → Int32) (A B K : Nat) : Nat → Int32 := fun q => if B ≤ q ∧ q < B + K then g (q - B + A) else g q
theorem cpy_0 {g : Nat → Int32} {A B : Nat} : cpy g A B 0 = g := by
  funext q
  unfold cpy
  rw [if_neg (by omega)]
theorem cpy_step {g : Nat → Int32} {A B K m : Nat} (hK : K < m) (hd : A + m ≤ B ∨ B + m ≤ A) : upd (cpy g A B K) (B + K) (cpy g A B K (A + K)) = cpy g A B (K + 1) := by
  funext q
  have e : cpy g A B K (A + K) = g (A + K) := by
    unfold cpy
    rw [if_neg (by omega)]
  rw [e]
  unfold upd
  by_cases c : q = B + K
  · rw [if_pos c]
    unfold cpy
    rw [if_pos (by omega), c, show B + K - B + A = A + K by omega]
  · rw [if_neg c]
    unfold cpy
    by_cases c2 : B ≤ q ∧ q < B + K
    · rw [if_pos c2, if_pos (by omega)]
    · rw [if_neg c2, if_neg (by omega)]
theorem c_copyRow (l : Launch) (D : va_G) (t : Nat → ClassId) (lo n : Nat) (f : Nat → va_E) {r z : Nat} {g : Nat → Int32} (hr : px_at lo n f r (.inl (t 0, z, .inl g))) (m a b : Nat) (ha : m * a + m ≤ z) (hb : m * b + m ≤ z) (hz : z < 2 ^ 31) (hd : m * a + m ≤ m * b ∨ m * b + m ≤ m * a) : MetM l yX11_copyRow cX11_copyRow 5 none 0 D t lo n f [.ref r, .int (nI m), .int (nI a), .int (nI b)] (va_up f r (.inl (t 0, z, .inl (cpy g (m * a) (m * b) m)))) none := by
  refine MetM.start (by decide +kernel) (Nat.le_of_ble_eq_true rfl) ?_
  intro p e s mm below meth cd X hH ls hl
  have hl : lv_has ls 5 [(0, .ref r), (1, .int (nI m)), (2, .int (nI a)), (3, .int (nI b))] := hl
  have hH : HX D t lo n (va_up f r (.inl (t 0, z, .inl (cpy g (m * a) (m * b) 0)))) (px_A lo n) s s.heap [] := by
    rw [cpy_0, px_upsame hr.2]; exact hH
  refine lv_iconst (v := 0) X.1 X.2.1 (show decode cX11_copyRow 0 = .ok (.iconst 0, 1) by decide +kernel) (by decide) ?_
  refine lv_istore X.1 X.2.1 (show decode cX11_copyRow 1 = .ok (.istore 4, 2) by decide +kernel) hl (by decide) rfl (fun ls hl => ?_)
  have loop : ∀ (d K : Nat) (H : Heap) (locs : List Loc) (ls : Array Slot), m ≤ K + d → K ≤ m → HX D t lo n (va_up f r (.inl (t 0, z, .inl (cpy g (m * a) (m * b) K)))) (px_A lo n) s H locs → lv_has ls 5 [(4, .int (nI K)), (0, .ref r), (1, .int (nI m)), (2, .int (nI a)), (3, .int (nI b))] → W p l e (px_rm 0) s mm [Value.ref r, .int (nI m), .int (nI a), .int (nI b)].toArray below meth cd H locs 0 0 (MQ below (QcM D lo n (va_up f r (.inl (t 0, z, .inl (cpy g (m * a) (m * b) m)))) none) [Value.ref r, .int (nI m), .int (nI a), .int (nI b)].toArray s 0 0 (px_A lo n)) (F0 mm 3 ls []) := by
    intro d
    induction d with
    | zero =>
      intro K H locs ls hd1 hK hH hl
      refine lv_iload X.1 X.2.1 (show decode cX11_copyRow 3 = .ok (.iload 4, 2) by decide +kernel) (lv_at hl 0 rfl) ?_
      refine lv_iload_n X.1 X.2.1 (show decode cX11_copyRow 5 = .ok (.iload_n 1, 1) by decide +kernel) rfl (lv_at hl 2 rfl) ?_
      refine lv_icmp_ge (tgt := 31) X.1 X.2.1 (show decode cX11_copyRow 6 = .ok (.if_icmp .ge 25, 3) by decide +kernel) (by decide) (fun q => ?_) (fun q => ?_)
      · rw [nI_leI (by omega) (by omega)] at q
        have : K = m := by omega
        subst this
        exact px_vret X hH (show decode cX11_copyRow 31 = .ok (.return_, 1) by decide +kernel)
      · rw [nI_leI (by omega) (by omega)] at q
        exact absurd q (by omega)
    | succ d ih =>
      intro K H locs ls hd1 hK hH hl
      refine lv_iload X.1 X.2.1 (show decode cX11_copyRow 3 = .ok (.iload 4, 2) by decide +kernel) (lv_at hl 0 rfl) ?_
      refine lv_iload_n X.1 X.2.1 (show decode cX11_copyRow 5 = .ok (.iload_n 1, 1) by decide +kernel) rfl (lv_at hl 2 rfl) ?_
      refine lv_icmp_ge (tgt := 31) X.1 X.2.1 (show decode cX11_copyRow 6 = .ok (.if_icmp .ge 25, 3) by decide +kernel) (by decide) (fun q => ?_) (fun q => ?_)
      · rw [nI_leI (by omega) (by omega)] at q
        have : K = m := by omega
        subst this
        exact px_vret X hH (show decode cX11_copyRow 31 = .ok (.return_, 1) by decide +kernel)
      · rw [nI_leI (by omega) (by omega)] at q
        refine lv_aload_n X.1 X.2.1 (show decode cX11_copyRow 9 = .ok (.aload_n 0, 1) by decide +kernel) rfl (lv_at hl 1 rfl) ?_
        refine lv_iload_n X.1 X.2.1 (show decode cX11_copyRow 10 = .ok (.iload_n 1, 1) by decide +kernel) rfl (lv_at hl 2 rfl) ?_
        refine lv_iload_n X.1 X.2.1 (show decode cX11_copyRow 11 = .ok (.iload_n 3, 1) by decide +kernel) rfl (lv_at hl 4 rfl) ?_
        refine lv_imul X.1 X.2.1 (show decode cX11_copyRow 12 = .ok (.imul, 1) by decide +kernel) ?_
        refine lv_iload X.1 X.2.1 (show decode cX11_copyRow 13 = .ok (.iload 4, 2) by decide +kernel) (lv_at hl 0 rfl) ?_
        refine lv_iadd X.1 X.2.1 (show decode cX11_copyRow 15 = .ok (.iadd, 1) by decide +kernel) ?_
        rw [nI_mul, nI_add]
        refine lv_aload_n X.1 X.2.1 (show decode cX11_copyRow 16 = .ok (.aload_n 0, 1) by decide +kernel) rfl (lv_at hl 1 rfl) ?_
        refine lv_iload_n X.1 X.2.1 (show decode cX11_copyRow 17 = .ok (.iload_n 1, 1) by decide +kernel) rfl (lv_at hl 2 rfl) ?_
        refine lv_iload_n X.1 X.2.1 (show decode cX11_copyRow 18 = .ok (.iload_n 2, 1) by decide +kernel) rfl (lv_at hl 3 rfl) ?_
        refine lv_imul X.1 X.2.1 (show decode cX11_copyRow 19 = .ok (.imul, 1) by decide +kernel) ?_
        refine lv_iload X.1 X.2.1 (show decode cX11_copyRow 20 = .ok (.iload 4, 2) by decide +kernel) (lv_at hl 0 rfl) ?_
        refine lv_iadd X.1 X.2.1 (show decode cX11_copyRow 22 = .ok (.iadd, 1) by decide +kernel) ?_
        rw [nI_mul, nI_add]
        refine bx_iald X hH ⟨hr.1, va_up_self ..⟩ (j := m * a + K) rfl (by omega) hz (show decode cX11_copyRow 23 = .ok (.iaload, 1) by decide +kernel) ?_
        refine bx_iast X hH hr.1 (j := m * b + K) rfl (by omega) hz (show decode cX11_copyRow 24 = .ok (.iastore, 1) by decide +kernel) (fun H1 locs1 h1 => ?_)
        rw [cpy_step (m := m) (by omega) hd] at h1
        refine lv_iinc (k := 0) X.1 X.2.1 (show decode cX11_copyRow 25 = .ok (.iinc 4 1, 3) by decide +kernel) hl rfl (show nI K + Int32.ofInt 1 = nI (K + 1) from nI_add K 1) (by decide) rfl (fun ls3 hl3 => ?_)
        refine lv_goto (tgt := 3) X.1 X.2.1 (show decode cX11_copyRow 28 = .ok (.goto (-25), 3) by decide +kernel) (by decide) ?_
        exact ih (K + 1) H1 locs1 ls3 (by omega) (by omega) h1 hl3
  exact loop m 0 s.heap [] ls (by omega) (by omega) hH hl
def cpT (t : Nat → ClassId) (lo a b : Nat) (f : Nat → va_E) (gs : Nat → Nat → Int32) : Nat → va_E := va_up (va_up (va_up (va_up (va_up (va_up (va_up (f) (lo + 6) (.inl (t 0, 5, .inl (cpy (gs 6) (1 * a) (1 * b) 1)))) (lo + 7) (.inl (t 0, 65, .inl (cpy (gs 7) (13 * a) (13 * b) 13)))) (lo + 8) (.inl (t 0, 20, .inl (cpy (gs 8) (4 * a) (4 * b) 4)))) (lo + 9) (.inl (t 0, 240, .inl (cpy (gs 9) (48 * a) (48 * b) 48)))) (lo + 10) (.inl (t 0, 20, .inl (cpy (gs 10) (4 * a) (4 * b) 4)))) (lo + 11) (.inl (t 0, 120, .inl (cpy (gs 11) (24 * a) (24 * b) 24)))) (lo + 12) (.inl (t 0, 1000, .inl (cpy (gs 12) (200 * a) (200 * b) 200)))
/-- the rows of a town -/
def TR : List (Nat × Nat × Nat) := [(6, 5, 1), (7, 65, 13), (8, 20, 4), (9, 240, 48), (10, 20, 4), (11, 120, 24), (12, 1000, 200)]
theorem cpT_at {t : Nat → ClassId} {lo a b : Nat} {f : Nat → va_E} {gs : Nat → Nat → Int32} {i z m : Nat} (h : (i, z, m) ∈ TR) : cpT t lo a b f gs (lo + i) = .inl (t 0, z, .inl (cpy (gs i) (m * a) (m * b) m)) := by
  simp only [TR, List.mem_cons, List.not_mem_nil, or_false, Prod.mk.injEq] at h
  unfold cpT
  rcases h with ⟨rfl, rfl, rfl⟩ | ⟨rfl, rfl, rfl⟩ | ⟨rfl, rfl, rfl⟩ | ⟨rfl, rfl, rfl⟩ | ⟨rfl, rfl, rfl⟩ | ⟨rfl, rfl, rfl⟩ | ⟨rfl, rfl, rfl⟩
  · rw [va_up_ne _ _ (by omega), va_up_ne _ _ (by omega), va_up_ne _ _ (by omega), va_up_ne _ _ (by omega), va_up_ne _ _ (by omega), va_up_ne _ _ (by omega), va_up_self]
  · rw [va_up_ne _ _ (by omega), va_up_ne _ _ (by omega), va_up_ne _ _ (by omega), va_up_ne _ _ (by omega), va_up_ne _ _ (by omega), va_up_self]
  · rw [va_up_ne _ _ (by omega), va_up_ne _ _ (by omega), va_up_ne _ _ (by omega), va_up_ne _ _ (by omega), va_up_self]
  · rw [va_up_ne _ _ (by omega), va_up_ne _ _ (by omega), va_up_ne _ _ (by omega), va_up_self]
  · rw [va_up_ne _ _ (by omega), va_up_ne _ _ (by omega), va_up_self]
  · rw [va_up_ne _ _ (by omega), va_up_self]
  · rw [va_up_self]
theorem cpT_off {t : Nat → ClassId} {lo a b : Nat} {f : Nat → va_E} {gs : Nat → Nat → Int32} {x : Nat} (h : x < lo + 6 ∨ lo + 12 < x) : cpT t lo a b f gs x = f x := by
  unfold cpT
  rw [va_up_ne _ _ (by omega), va_up_ne _ _ (by omega), va_up_ne _ _ (by omega), va_up_ne _ _ (by omega), va_up_ne _ _ (by omega), va_up_ne _ _ (by omega), va_up_ne _ _ (by omega)]
theorem c_copyTown (l : Launch) (D : va_G) (t : Nat → ClassId) (lo n : Nat) (f : Nat → va_E) {fs : List Value} (gs : Nat → Nat → Int32) (h0 : f lo = .inr (11, fs)) (o16 : fs[16]? = some (.ref (lo + 6))) (o17 : fs[17]? = some (.ref (lo + 7))) (o18 : fs[18]? = some (.ref (lo + 8))) (o19 : fs[19]? = some (.ref (lo + 9))) (o20 : fs[20]? = some (.ref (lo + 10))) (o21 : fs[21]? = some (.ref (lo + 11))) (o22 : fs[22]? = some (.ref (lo + 12))) (hg : ∀ i z m, (i, z, m) ∈ TR → f (lo + i) = .inl (t 0, z, .inl (gs i))) (hn : 17 ≤ n) (a b : Nat) (ha : a ≤ 4) (hb : b ≤ 4) (hab : a ≠ b) : MetM l yX11_copyTown cX11_copyTown 3 none 1 D t lo n f [.ref lo, .int (nI a), .int (nI b)] (cpT t lo a b f gs) none := by
  refine MetM.start (by decide +kernel) (Nat.le_of_ble_eq_true rfl) ?_
  intro p e s m below meth cd X hH ls hl
  have hl : lv_has ls 3 [(0, .ref lo), (1, .int (nI a)), (2, .int (nI b))] := hl
  have q6 : f (lo + 6) = .inl (t 0, 5, .inl (gs 6)) := hg 6 5 1 (by decide)
  have q7 : f (lo + 7) = .inl (t 0, 65, .inl (gs 7)) := hg 7 65 13 (by decide)
  have q8 : f (lo + 8) = .inl (t 0, 20, .inl (gs 8)) := hg 8 20 4 (by decide)
  have q9 : f (lo + 9) = .inl (t 0, 240, .inl (gs 9)) := hg 9 240 48 (by decide)
  have q10 : f (lo + 10) = .inl (t 0, 20, .inl (gs 10)) := hg 10 20 4 (by decide)
  have q11 : f (lo + 11) = .inl (t 0, 120, .inl (gs 11)) := hg 11 120 24 (by decide)
  have q12 : f (lo + 12) = .inl (t 0, 1000, .inl (gs 12)) := hg 12 1000 200 (by decide)
  refine lv_aload_n X.1 X.2.1 (show decode cX11_copyTown 0 = .ok (.aload_n 0, 1) by decide +kernel) rfl (lv_at hl 0 rfl) ?_
  refine bx_get fl_X11_ok (i := 31) rfl X hH ⟨⟨by omega, by omega⟩, by exact h0⟩ o16 (show decode cX11_copyTown 1 = .ok (.getfield 31, 3) by decide +kernel) ?_
  refine lv_iconst (v := 1) X.1 X.2.1 (show decode cX11_copyTown 4 = .ok (.iconst 1, 1) by decide +kernel) (by decide) ?_
  refine lv_iload_n X.1 X.2.1 (show decode cX11_copyTown 5 = .ok (.iload_n 1, 1) by decide +kernel) rfl (lv_at hl 1 rfl) ?_
  refine lv_iload_n X.1 X.2.1 (show decode cX11_copyTown 6 = .ok (.iload_n 2, 1) by decide +kernel) rfl (lv_at hl 2 rfl) ?_
  refine px_callS (k := 0) (idx := 242) (na := 4) (As := [.ref (lo + 6), .int (nI 1), .int (nI a), .int (nI b)]) (rest := []) X hH (c_copyRow l D t lo n _ (z := 5) (g := gs 6) ⟨⟨by omega, by omega⟩, by exact q6⟩ 1 a b (by omega) (by omega) (by decide) (by omega)) mw_1571 mw_1572 mw_12 mw_1573 (by decide +kernel) ⟨by decide, by decide⟩ ⟨Nat.le_refl _, Nat.le_refl _⟩ hl.1 rfl rfl (by decide) (show decode cX11_copyTown 7 = .ok (.invokestatic 242, 3) by decide +kernel) (fun H1 locs1 hH _ => ?_)
  refine lv_aload_n X.1 X.2.1 (show decode cX11_copyTown 10 = .ok (.aload_n 0, 1) by decide +kernel) rfl (lv_at hl 0 rfl) ?_
  refine bx_get fl_X11_ok (i := 34) rfl X hH ⟨⟨by omega, by omega⟩, by rw [va_up_ne _ _ (by omega)]; exact h0⟩ o17 (show decode cX11_copyTown 11 = .ok (.getfield 34, 3) by decide +kernel) ?_
  refine lv_bipush (v := 13) X.1 X.2.1 (show decode cX11_copyTown 14 = .ok (.bipush 13, 2) by decide +kernel) (by decide) ?_
  refine lv_iload_n X.1 X.2.1 (show decode cX11_copyTown 16 = .ok (.iload_n 1, 1) by decide +kernel) rfl (lv_at hl 1 rfl) ?_
  refine lv_iload_n X.1 X.2.1 (show decode cX11_copyTown 17 = .ok (.iload_n 2, 1) by decide +kernel) rfl (lv_at hl 2 rfl) ?_
  refine px_callS (k := 0) (idx := 242) (na := 4) (As := [.ref (lo + 7), .int (nI 13), .int (nI a), .int (nI b)]) (rest := []) X hH (c_copyRow l D t lo n _ (z := 65) (g := gs 7) ⟨⟨by omega, by omega⟩, by rw [va_up_ne _ _ (by omega)]; exact q7⟩ 13 a b (by omega) (by omega) (by decide) (by omega)) mw_1571 mw_1572 mw_12 mw_1573 (by decide +kernel) ⟨by decide, by decide⟩ ⟨Nat.le_refl _, Nat.le_refl _⟩ hl.1 rfl rfl (by decide) (show decode cX11_copyTown 18 = .ok (.invokestatic 242, 3) by decide +kernel) (fun H2 locs2 hH _ => ?_)
  refine lv_aload_n X.1 X.2.1 (show decode cX11_copyTown 21 = .ok (.aload_n 0, 1) by decide +kernel) rfl (lv_at hl 0 rfl) ?_
  refine bx_get fl_X11_ok (i := 37) rfl X hH ⟨⟨by omega, by omega⟩, by rw [va_up_ne _ _ (by omega), va_up_ne _ _ (by omega)]; exact h0⟩ o18 (show decode cX11_copyTown 22 = .ok (.getfield 37, 3) by decide +kernel) ?_
  refine lv_iconst (v := 4) X.1 X.2.1 (show decode cX11_copyTown 25 = .ok (.iconst 4, 1) by decide +kernel) (by decide) ?_
  refine lv_iload_n X.1 X.2.1 (show decode cX11_copyTown 26 = .ok (.iload_n 1, 1) by decide +kernel) rfl (lv_at hl 1 rfl) ?_
  refine lv_iload_n X.1 X.2.1 (show decode cX11_copyTown 27 = .ok (.iload_n 2, 1) by decide +kernel) rfl (lv_at hl 2 rfl) ?_
  refine px_callS (k := 0) (idx := 242) (na := 4) (As := [.ref (lo + 8), .int (nI 4), .int (nI a), .int (nI b)]) (rest := []) X hH (c_copyRow l D t lo n _ (z := 20) (g := gs 8) ⟨⟨by omega, by omega⟩, by rw [va_up_ne _ _ (by omega), va_up_ne _ _ (by omega)]; exact q8⟩ 4 a b (by omega) (by omega) (by decide) (by omega)) mw_1571 mw_1572 mw_12 mw_1573 (by decide +kernel) ⟨by decide, by decide⟩ ⟨Nat.le_refl _, Nat.le_refl _⟩ hl.1 rfl rfl (by decide) (show decode cX11_copyTown 28 = .ok (.invokestatic 242, 3) by decide +kernel) (fun H3 locs3 hH _ => ?_)
  refine lv_aload_n X.1 X.2.1 (show decode cX11_copyTown 31 = .ok (.aload_n 0, 1) by decide +kernel) rfl (lv_at hl 0 rfl) ?_
  refine bx_get fl_X11_ok (i := 40) rfl X hH ⟨⟨by omega, by omega⟩, by rw [va_up_ne _ _ (by omega), va_up_ne _ _ (by omega), va_up_ne _ _ (by omega)]; exact h0⟩ o19 (show decode cX11_copyTown 32 = .ok (.getfield 40, 3) by decide +kernel) ?_
  refine lv_bipush (v := 48) X.1 X.2.1 (show decode cX11_copyTown 35 = .ok (.bipush 48, 2) by decide +kernel) (by decide) ?_
  refine lv_iload_n X.1 X.2.1 (show decode cX11_copyTown 37 = .ok (.iload_n 1, 1) by decide +kernel) rfl (lv_at hl 1 rfl) ?_
  refine lv_iload_n X.1 X.2.1 (show decode cX11_copyTown 38 = .ok (.iload_n 2, 1) by decide +kernel) rfl (lv_at hl 2 rfl) ?_
  refine px_callS (k := 0) (idx := 242) (na := 4) (As := [.ref (lo + 9), .int (nI 48), .int (nI a), .int (nI b)]) (rest := []) X hH (c_copyRow l D t lo n _ (z := 240) (g := gs 9) ⟨⟨by omega, by omega⟩, by rw [va_up_ne _ _ (by omega), va_up_ne _ _ (by omega), va_up_ne _ _ (by omega)]; exact q9⟩ 48 a b (by omega) (by omega) (by decide) (by omega)) mw_1571 mw_1572 mw_12 mw_1573 (by decide +kernel) ⟨by decide, by decide⟩ ⟨Nat.le_refl _, Nat.le_refl _⟩ hl.1 rfl rfl (by decide) (show decode cX11_copyTown 39 = .ok (.invokestatic 242, 3) by decide +kernel) (fun H4 locs4 hH _ => ?_)
  refine lv_aload_n X.1 X.2.1 (show decode cX11_copyTown 42 = .ok (.aload_n 0, 1) by decide +kernel) rfl (lv_at hl 0 rfl) ?_
  refine bx_get fl_X11_ok (i := 43) rfl X hH ⟨⟨by omega, by omega⟩, by rw [va_up_ne _ _ (by omega), va_up_ne _ _ (by omega), va_up_ne _ _ (by omega), va_up_ne _ _ (by omega)]; exact h0⟩ o20 (show decode cX11_copyTown 43 = .ok (.getfield 43, 3) by decide +kernel) ?_
  refine lv_iconst (v := 4) X.1 X.2.1 (show decode cX11_copyTown 46 = .ok (.iconst 4, 1) by decide +kernel) (by decide) ?_
  refine lv_iload_n X.1 X.2.1 (show decode cX11_copyTown 47 = .ok (.iload_n 1, 1) by decide +kernel) rfl (lv_at hl 1 rfl) ?_
  refine lv_iload_n X.1 X.2.1 (show decode cX11_copyTown 48 = .ok (.iload_n 2, 1) by decide +kernel) rfl (lv_at hl 2 rfl) ?_
  refine px_callS (k := 0) (idx := 242) (na := 4) (As := [.ref (lo + 10), .int (nI 4), .int (nI a), .int (nI b)]) (rest := []) X hH (c_copyRow l D t lo n _ (z := 20) (g := gs 10) ⟨⟨by omega, by omega⟩, by rw [va_up_ne _ _ (by omega), va_up_ne _ _ (by omega), va_up_ne _ _ (by omega), va_up_ne _ _ (by omega)]; exact q10⟩ 4 a b (by omega) (by omega) (by decide) (by omega)) mw_1571 mw_1572 mw_12 mw_1573 (by decide +kernel) ⟨by decide, by decide⟩ ⟨Nat.le_refl _, Nat.le_refl _⟩ hl.1 rfl rfl (by decide) (show decode cX11_copyTown 49 = .ok (.invokestatic 242, 3) by decide +kernel) (fun H5 locs5 hH _ => ?_)
  refine lv_aload_n X.1 X.2.1 (show decode cX11_copyTown 52 = .ok (.aload_n 0, 1) by decide +kernel) rfl (lv_at hl 0 rfl) ?_
  refine bx_get fl_X11_ok (i := 46) rfl X hH ⟨⟨by omega, by omega⟩, by rw [va_up_ne _ _ (by omega), va_up_ne _ _ (by omega), va_up_ne _ _ (by omega), va_up_ne _ _ (by omega), va_up_ne _ _ (by omega)]; exact h0⟩ o21 (show decode cX11_copyTown 53 = .ok (.getfield 46, 3) by decide +kernel) ?_
  refine lv_bipush (v := 24) X.1 X.2.1 (show decode cX11_copyTown 56 = .ok (.bipush 24, 2) by decide +kernel) (by decide) ?_
  refine lv_iload_n X.1 X.2.1 (show decode cX11_copyTown 58 = .ok (.iload_n 1, 1) by decide +kernel) rfl (lv_at hl 1 rfl) ?_
  refine lv_iload_n X.1 X.2.1 (show decode cX11_copyTown 59 = .ok (.iload_n 2, 1) by decide +kernel) rfl (lv_at hl 2 rfl) ?_
  refine px_callS (k := 0) (idx := 242) (na := 4) (As := [.ref (lo + 11), .int (nI 24), .int (nI a), .int (nI b)]) (rest := []) X hH (c_copyRow l D t lo n _ (z := 120) (g := gs 11) ⟨⟨by omega, by omega⟩, by rw [va_up_ne _ _ (by omega), va_up_ne _ _ (by omega), va_up_ne _ _ (by omega), va_up_ne _ _ (by omega), va_up_ne _ _ (by omega)]; exact q11⟩ 24 a b (by omega) (by omega) (by decide) (by omega)) mw_1571 mw_1572 mw_12 mw_1573 (by decide +kernel) ⟨by decide, by decide⟩ ⟨Nat.le_refl _, Nat.le_refl _⟩ hl.1 rfl rfl (by decide) (show decode cX11_copyTown 60 = .ok (.invokestatic 242, 3) by decide +kernel) (fun H6 locs6 hH _ => ?_)
  refine lv_aload_n X.1 X.2.1 (show decode cX11_copyTown 63 = .ok (.aload_n 0, 1) by decide +kernel) rfl (lv_at hl 0 rfl) ?_
  refine bx_get fl_X11_ok (i := 49) rfl X hH ⟨⟨by omega, by omega⟩, by rw [va_up_ne _ _ (by omega), va_up_ne _ _ (by omega), va_up_ne _ _ (by omega), va_up_ne _ _ (by omega), va_up_ne _ _ (by omega), va_up_ne _ _ (by omega)]; exact h0⟩ o22 (show decode cX11_copyTown 64 = .ok (.getfield 49, 3) by decide +kernel) ?_
  refine lv_sipush (v := 200) X.1 X.2.1 (show decode cX11_copyTown 67 = .ok (.sipush 200, 3) by decide +kernel) (by decide) ?_
  refine lv_iload_n X.1 X.2.1 (show decode cX11_copyTown 70 = .ok (.iload_n 1, 1) by decide +kernel) rfl (lv_at hl 1 rfl) ?_
  refine lv_iload_n X.1 X.2.1 (show decode cX11_copyTown 71 = .ok (.iload_n 2, 1) by decide +kernel) rfl (lv_at hl 2 rfl) ?_
  refine px_callS (k := 0) (idx := 242) (na := 4) (As := [.ref (lo + 12), .int (nI 200), .int (nI a), .int (nI b)]) (rest := []) X hH (c_copyRow l D t lo n _ (z := 1000) (g := gs 12) ⟨⟨by omega, by omega⟩, by rw [va_up_ne _ _ (by omega), va_up_ne _ _ (by omega), va_up_ne _ _ (by omega), va_up_ne _ _ (by omega), va_up_ne _ _ (by omega), va_up_ne _ _ (by omega)]; exact q12⟩ 200 a b (by omega) (by omega) (by decide) (by omega)) mw_1571 mw_1572 mw_12 mw_1573 (by decide +kernel) ⟨by decide, by decide⟩ ⟨Nat.le_refl _, Nat.le_refl _⟩ hl.1 rfl rfl (by decide) (show decode cX11_copyTown 72 = .ok (.invokestatic 242, 3) by decide +kernel) (fun H7 locs7 hH _ => ?_)
  exact px_vret X hH (show decode cX11_copyTown 75 = .ok (.return_, 1) by decide +kernel)
