/-! paste of the class -/
theorem mw_415 : Jvm.Cond.fieldLink "BellMoney" (434 : Nat) "BellMoney$Row" "width" "I" ∈ Wd := List.mem_filter.mpr ⟨List.mem_of_getElem? (i := 517) (by decide +kernel), by decide +kernel⟩
theorem mw_421 : Jvm.Cond.fieldLink "BellMoney" (440 : Nat) "BellMoney$Row" "numbers" "[J" ∈ Wd := List.mem_filter.mpr ⟨List.mem_of_getElem? (i := 523) (by decide +kernel), by decide +kernel⟩
theorem mw_1249 : Jvm.Cond.methodLink "BellMoney" (437 : Nat) ({ cls := "BellMoney$Row", name := "reaches", desc := "(II)Z" } : Jvm.MethodName) ∈ Wd := List.mem_filter.mpr ⟨List.mem_of_getElem? (i := 1351) (by decide +kernel), by decide +kernel⟩
theorem mw_1250 : Jvm.Cond.instanceMethod ({ cls := "BellMoney$Row", name := "reaches", desc := "(II)Z" } : Jvm.MethodName) ∈ Wd := List.mem_filter.mpr ⟨List.mem_of_getElem? (i := 1352) (by decide +kernel), by decide +kernel⟩
theorem mw_1252 : Jvm.Cond.code ({ cls := "BellMoney$Row", name := "reaches", desc := "(II)Z" } : Jvm.MethodName) prog_7_method_4_code (3 : Nat) (Option.some Jvm.ClassFile.FieldType.boolean) ∈ Wd := List.mem_filter.mpr ⟨List.mem_of_getElem? (i := 1354) (by decide +kernel), by decide +kernel⟩
theorem mw_1251 : Jvm.Cond.selects "BellMoney$Row" ({ cls := "BellMoney$Row", name := "reaches", desc := "(II)Z" } : Jvm.MethodName) ({ cls := "BellMoney$Row", name := "reaches", desc := "(II)Z" } : Jvm.MethodName) ∈ Wd := List.mem_filter.mpr ⟨List.mem_of_getElem? (i := 1353) (by decide +kernel), by decide +kernel⟩
theorem mw_1253 : Jvm.Cond.methodLink "BellMoney" (443 : Nat) ({ cls := "java/lang/System", name := "arraycopy", desc := "(Ljava/lang/Object;ILjava/lang/Object;II)V" } : Jvm.MethodName) ∈ Wd := List.mem_filter.mpr ⟨List.mem_of_getElem? (i := 1355) (by decide +kernel), by decide +kernel⟩
theorem fl_Q_ok : FLok RX10 [(24, 10, 2, 4), (264, 5, 0, 1), (434, 5, 1, 0), (440, 5, 3, 4)] := FLok.cons ⟨RX10, TX10, 8, tyX10, rfl, iX10, tyX10_ok, nmX10, by decide, mw_433, trivial⟩ (FLok.cons ⟨RX5, TX5, 4, tyX5, rfl, iX5, tyX5_ok, nmX5, by decide, mw_413, ⟨rfl, rfl⟩⟩ (FLok.cons ⟨RX5, TX5, 4, tyX5, rfl, iX5, tyX5_ok, nmX5, by decide, mw_415, ⟨rfl, rfl⟩⟩ (FLok.cons ⟨RX5, TX5, 4, tyX5, rfl, iX5, tyX5_ok, nmX5, by decide, mw_421, trivial⟩ (FLok.nil))))
def crU : List (Nat × Nat) := [(4, 4), (101, 296), (102, 297), (103, 298), (104, 299), (105, 300), (106, 301), (107, 302), (108, 303)]
theorem crU0 (b : Bool) : crU.all (fun q => (List.range 304).all (fun i => decide ((Ec b).2.1[i]? = some q.1) == decide (i = q.2))) = true := by cases b <;> decide +kernel
theorem Ec_len (b : Bool) : (Ec b).2.1.length = 304 := by cases b <;> decide +kernel
theorem crU_at {b : Bool} {k c i : Nat} (h : (k, c) ∈ crU) : (Ec b).2.1[i]? = some k ↔ i = c := by
  have hq := List.all_eq_true.mp (crU0 b) (k, c) h
  have hc : c < 304 := by
    simp only [crU, List.mem_cons, List.not_mem_nil, or_false, Prod.mk.injEq] at h
    omega
  constructor
  · intro hi
    have hlt : i < 304 := by rw [← Ec_len b]; exact (List.getElem?_eq_some_iff.mp hi).1
    have := List.all_eq_true.mp hq i (List.mem_range.mpr hlt)
    simp only [hi, decide_true, beq_iff_eq] at this
    exact of_decide_eq_true this.symm
  · intro hi
    subst hi
    have := List.all_eq_true.mp hq i (List.mem_range.mpr hc)
    simp only [decide_true, beq_iff_eq] at this
    exact of_decide_eq_true this
/-- the rows of numbers -/
def RWS (t : Nat → ClassId) (lo : Nat) (f : Nat → va_E) (fs : List Value) (g : Nat → Option Nat) : Prop := f lo = .inr (10, fs) ∧ fs[2]? = some (.ref (lo + 4)) ∧ f (lo + 4) = .inl (t 6, 4, .inr (.inr (.inr (.inr g)))) ∧ ∀ s, s < 4 → g s = some (lo + (296 + 2 * s)) ∧ ∃ (rs : List Value) (a w z : Int32) (gn : Nat → Int64), f (lo + (296 + 2 * s)) = .inr (5, rs) ∧ rs[0]? = some (.int a) ∧ rs[1]? = some (.int w) ∧ rs[2]? = some (.int z) ∧ rs[3]? = some (.ref (lo + (297 + 2 * s))) ∧ f (lo + (297 + 2 * s)) = .inl (t 1, 60, .inr (.inl gn)) ∧ (0 ≤ a.toInt ∧ a.toInt ≤ 1) ∧ (0 ≤ z.toInt ∧ z.toInt ≤ 60)
theorem trc_r0 (b : Bool) : (List.range 4).all (fun s => decide ((Ec b).2.2.2[16 + 3 * s]? = some (296 + 2 * s, 0)) && decide ((Ec b).2.2.2[17 + 3 * s]? = some (296 + 2 * s, 1)) && decide ((Ec b).2.2.2[18 + 3 * s]? = some (296 + 2 * s, 2)) && decide (VGc[16 + 3 * s]? = some (pI 0 1)) && decide (VGc[17 + 3 * s]? = some (pI 0 3)) && decide (VGc[18 + 3 * s]? = some (pI 0 60))) = true := by cases b <;> decide +kernel
theorem trc_r {b : Bool} {s : Nat} (h : s < 4) : (Ec b).2.2.2[16 + 3 * s]? = some (296 + 2 * s, 0) ∧ (Ec b).2.2.2[17 + 3 * s]? = some (296 + 2 * s, 1) ∧ (Ec b).2.2.2[18 + 3 * s]? = some (296 + 2 * s, 2) ∧ VGc[16 + 3 * s]? = some (pI 0 1) ∧ VGc[17 + 3 * s]? = some (pI 0 3) ∧ VGc[18 + 3 * s]? = some (pI 0 60) := by
  have := List.all_eq_true.mp (trc_r0 b) s (List.mem_range.mpr h)
  simp only [Bool.and_eq_true, decide_eq_true_eq] at this
  obtain ⟨⟨⟨⟨⟨h1, h2⟩, h3⟩, h4⟩, h5⟩, h6⟩ := this
  exact ⟨h1, h2, h3, h4, h5, h6⟩
theorem VR_int {E : XE} {xt : XX} {lo : Nat} {ps : List XP} {f : Nat → va_E} (h : VR E xt lo ps f) {j o k : Nat} {a b : Int} (hj : E.2.2.2[j]? = some (o, k)) (hp : ps[j]? = some (pI a b)) : ∃ i : Int32, cellv (f (lo + o)) k = some (.int i) ∧ cv f (lo + o) k = i.toInt ∧ a ≤ i.toInt ∧ i.toInt ≤ b := by
  obtain ⟨v, h1, i, rfl, -, h3, h4⟩ := h j o k _ hj hp
  exact ⟨i, h1, cv_of h1, h3, h4⟩
theorem kr {b : Bool} {t : Nat → ClassId} {lo a k c : Nat} (h : (k, c) ∈ crU) (hB : xB (Ec b) lo (xtc t lo) k a) {y : XK} (hy : (Ec b).1[k]? = some y) : a = lo + c := by
  obtain ⟨i, rfl, q3⟩ := xB_in hB hy
  rw [(crU_at h).mp q3]
theorem IC_rows {b : Bool} {t : Nat → ClassId} {lo : Nat} {f : Nat → va_E} (hI : IC b t lo f) : ∃ fs g, RWS t lo f fs g := by
  obtain ⟨fs, e1, e2, e3⟩ := typ_at hI.1 (i := 0) (k := 0) (kdc0 b) (rfl : (Ec b).1[0]? = some _)
  obtain ⟨_, o2, a2, rfl, q2⟩ := e3 2 (tR 4) rfl
  have := kr (k := 4) (c := 4) (by decide) q2 rfl
  subst this
  obtain ⟨g, g1, g2, g3⟩ := typ_at hI.1 (i := 4) (k := 4) ((crU_at (by decide)).mpr rfl) (rfl : (Ec b).1[4]? = some _)
  have one : ∀ (s k : Nat), s < 4 → (k, 296 + 2 * s) ∈ crU → (k + 1, 297 + 2 * s) ∈ crU → g s = some (lo + (296 + 2 * s)) → (∃ v : Nat, (Ec b).1[k]? = some (.inl (5, [tV v, tV (v + 1), tV (v + 2), tR (k + 1)]))) → (Ec b).1[k + 1]? = some (.inr (1, 60, .inl (-9223372036854775808, 9223372036854775807, [], []))) → g s = some (lo + (296 + 2 * s)) ∧ ∃ (rs : List Value) (a w z : Int32) (gn : Nat → Int64), f (lo + (296 + 2 * s)) = .inr (5, rs) ∧ rs[0]? = some (.int a) ∧ rs[1]? = some (.int w) ∧ rs[2]? = some (.int z) ∧ rs[3]? = some (.ref (lo + (297 + 2 * s))) ∧ f (lo + (297 + 2 * s)) = .inl (t 1, 60, .inr (.inl gn)) ∧ (0 ≤ a.toInt ∧ a.toInt ≤ 1) ∧ (0 ≤ z.toInt ∧ z.toInt ≤ 60) := by
    intro s k hs hk hk2 hg hK hK2
    obtain ⟨v, hK⟩ := hK
    obtain ⟨rs, r1, r2, r3⟩ := typ_at hI.1 (i := 296 + 2 * s) (k := k) ((crU_at hk).mpr rfl) hK
    obtain ⟨_, w3, a3, rfl, q3⟩ := r3 3 (tR (k + 1)) rfl
    have := kr hk2 q3 hK2
    subst this
    obtain ⟨t1, t2, t3, t4, t5, t6⟩ := trc_r (b := b) hs
    obtain ⟨a, x1, x2, x3, x4⟩ := VR_int hI.2 t1 t4
    obtain ⟨w, y1, y2, y3, y4⟩ := VR_int hI.2 t2 t5
    obtain ⟨z, z1, z2, z3, z4⟩ := VR_int hI.2 t3 t6
    rw [r1] at x1 y1 z1
    obtain ⟨gn, n1, -⟩ := typ_at hI.1 (i := 297 + 2 * s) (k := k + 1) ((crU_at hk2).mpr rfl) hK2
    exact ⟨hg, rs, a, w, z, gn, r1, x1, y1, z1, w3, n1, ⟨x3, x4⟩, ⟨z3, z4⟩⟩
  refine ⟨fs, g, e1, o2, g1, fun s hs => ?_⟩
  match s, hs with
  | 0, _ =>
    obtain ⟨x, h1, h2⟩ := g3 0 101 rfl
    exact one 0 101 (by decide) (by decide) (by decide) (by rw [h1, kr (k := 101) (c := 296) (by decide) h2 rfl]) ⟨_, rfl⟩ rfl
  | 1, _ =>
    obtain ⟨x, h1, h2⟩ := g3 1 103 rfl
    exact one 1 103 (by decide) (by decide) (by decide) (by rw [h1, kr (k := 103) (c := 298) (by decide) h2 rfl]) ⟨_, rfl⟩ rfl
  | 2, _ =>
    obtain ⟨x, h1, h2⟩ := g3 2 105 rfl
    exact one 2 105 (by decide) (by decide) (by decide) (by rw [h1, kr (k := 105) (c := 300) (by decide) h2 rfl]) ⟨_, rfl⟩ rfl
  | 3, _ =>
    obtain ⟨x, h1, h2⟩ := g3 3 107 rfl
    exact one 3 107 (by decide) (by decide) (by decide) (by rw [h1, kr (k := 107) (c := 302) (by decide) h2 rfl]) ⟨_, rfl⟩ rfl
theorem c_slotC (l : Launch) (D : va_G) (t : Nat → ClassId) (lo n : Nat) (f : Nat → va_E) (k : Int32) : MetM l yX10_isSlot cX10_isSlot 1 (some .boolean) 0 D t lo n f [.int k] f (some (.int (if 0 ≤ k.toInt ∧ k.toInt ≤ 3 then 1 else 0))) := by
  refine MetM.start (by decide +kernel) (Nat.le_of_ble_eq_true rfl) ?_
  intro p e s m below meth cd X hH ls hl
  have hl : lv_has ls 1 [(0, .int k)] := hl
  have no : ¬ (0 ≤ k.toInt ∧ k.toInt ≤ 3) → W p l e (px_rm 0) s m [Value.int k].toArray below meth cd s.heap [] 0 0 (MQ below (QcM D lo n f (some (.int (if 0 ≤ k.toInt ∧ k.toInt ≤ 3 then 1 else 0)))) [Value.int k].toArray s 0 0 (px_A lo n)) (F0 m 13 ls []) := by
    intro q
    refine lv_iconst (v := 0) X.1 X.2.1 (show decode cX10_isSlot 13 = .ok (.iconst 0, 1) by decide +kernel) (by decide) ?_
    exact px_zret X hH (by rw [if_neg q]) rfl (show decode cX10_isSlot 14 = .ok (.ireturn, 1) by decide +kernel)
  refine lv_iload_n X.1 X.2.1 (show decode cX10_isSlot 0 = .ok (.iload_n 0, 1) by decide +kernel) rfl (lv_at hl 0 rfl) ?_
  refine lv_if_lt (tgt := 13) X.1 X.2.1 (show decode cX10_isSlot 1 = .ok (.ifCond .lt 12, 3) by decide +kernel) (by decide) (fun q => no ?_) (fun q => ?_)
  · rw [Int32.lt_iff_toInt_lt, show (0 : Int32).toInt = 0 from rfl] at q
    omega
  rw [Int32.lt_iff_toInt_lt, show (0 : Int32).toInt = 0 from rfl] at q
  refine lv_iload_n X.1 X.2.1 (show decode cX10_isSlot 4 = .ok (.iload_n 0, 1) by decide +kernel) rfl (lv_at hl 0 rfl) ?_
  refine lv_iconst (v := 4) X.1 X.2.1 (show decode cX10_isSlot 5 = .ok (.iconst 4, 1) by decide +kernel) (by decide) ?_
  refine lv_icmp_ge (tgt := 13) X.1 X.2.1 (show decode cX10_isSlot 6 = .ok (.if_icmp .ge 7, 3) by decide +kernel) (by decide) (fun q2 => no ?_) (fun q2 => ?_)
  · rw [Int32.le_iff_toInt_le, show (4 : Int32).toInt = 4 from rfl] at q2
    omega
  rw [Int32.le_iff_toInt_le, show (4 : Int32).toInt = 4 from rfl] at q2
  refine lv_iconst (v := 1) X.1 X.2.1 (show decode cX10_isSlot 9 = .ok (.iconst 1, 1) by decide +kernel) (by decide) ?_
  refine lv_goto (tgt := 14) X.1 X.2.1 (show decode cX10_isSlot 10 = .ok (.goto 4, 3) by decide +kernel) (by decide) ?_
  exact px_zret X hH (by rw [if_pos (by omega)]) rfl (show decode cX10_isSlot 14 = .ok (.ireturn, 1) by decide +kernel)
theorem c_reaches (l : Launch) (D : va_G) (t : Nat → ClassId) (lo n : Nat) (f : Nat → va_E) {r : Nat} {rs : List Value} {z : Int32} (hr : px_at lo n f r (.inr (5, rs))) (h2 : rs[2]? = some (.int z)) (hz : 0 ≤ z.toInt ∧ z.toInt ≤ 60) (i k : Int32) : MetM l yX5_reaches cX5_reaches 3 (some .boolean) 0 D t lo n f [.ref r, .int i, .int k] f (some (.int (if 0 ≤ i.toInt ∧ 0 ≤ k.toInt ∧ i.toInt + k.toInt ≤ z.toInt then 1 else 0))) := by
  refine MetM.start (by decide +kernel) (Nat.le_of_ble_eq_true rfl) ?_
  intro p e s m below meth cd X hH ls hl
  have hl : lv_has ls 3 [(0, .ref r), (1, .int i), (2, .int k)] := hl
  have no : ¬ (0 ≤ i.toInt ∧ 0 ≤ k.toInt ∧ i.toInt + k.toInt ≤ z.toInt) → W p l e (px_rm 0) s m [Value.ref r, .int i, .int k].toArray below meth cd s.heap [] 0 0 (MQ below (QcM D lo n f (some (.int (if 0 ≤ i.toInt ∧ 0 ≤ k.toInt ∧ i.toInt + k.toInt ≤ z.toInt then 1 else 0)))) [Value.ref r, .int i, .int k].toArray s 0 0 (px_A lo n)) (F0 m 30 ls []) := by
    intro q
    refine lv_iconst (v := 0) X.1 X.2.1 (show decode cX5_reaches 30 = .ok (.iconst 0, 1) by decide +kernel) (by decide) ?_
    exact px_zret X hH (by rw [if_neg q]) rfl (show decode cX5_reaches 31 = .ok (.ireturn, 1) by decide +kernel)
  have ib := i32_b i
  have y1 : lo32 = -2147483648 ∧ hi32 = 2147483647 := ⟨rfl, rfl⟩
  refine lv_iload_n X.1 X.2.1 (show decode cX5_reaches 0 = .ok (.iload_n 1, 1) by decide +kernel) rfl (lv_at hl 1 rfl) ?_
  refine lv_if_lt (tgt := 30) X.1 X.2.1 (show decode cX5_reaches 1 = .ok (.ifCond .lt 29, 3) by decide +kernel) (by decide) (fun q => no ?_) (fun q => ?_)
  · rw [Int32.lt_iff_toInt_lt, show (0 : Int32).toInt = 0 from rfl] at q
    omega
  rw [Int32.lt_iff_toInt_lt, show (0 : Int32).toInt = 0 from rfl] at q
  refine lv_iload_n X.1 X.2.1 (show decode cX5_reaches 4 = .ok (.iload_n 2, 1) by decide +kernel) rfl (lv_at hl 2 rfl) ?_
  refine lv_if_lt (tgt := 30) X.1 X.2.1 (show decode cX5_reaches 5 = .ok (.ifCond .lt 25, 3) by decide +kernel) (by decide) (fun q2 => no ?_) (fun q2 => ?_)
  · rw [Int32.lt_iff_toInt_lt, show (0 : Int32).toInt = 0 from rfl] at q2
    omega
  rw [Int32.lt_iff_toInt_lt, show (0 : Int32).toInt = 0 from rfl] at q2
  refine lv_iload_n X.1 X.2.1 (show decode cX5_reaches 8 = .ok (.iload_n 2, 1) by decide +kernel) rfl (lv_at hl 2 rfl) ?_
  refine lv_aload_n X.1 X.2.1 (show decode cX5_reaches 9 = .ok (.aload_n 0, 1) by decide +kernel) rfl (lv_at hl 0 rfl) ?_
  refine bx_get fl_X5_ok (i := 19) rfl X hH hr h2 (show decode cX5_reaches 10 = .ok (.getfield 19, 3) by decide +kernel) ?_
  refine lv_icmp_gt (tgt := 30) X.1 X.2.1 (show decode cX5_reaches 13 = .ok (.if_icmp .gt 17, 3) by decide +kernel) (by decide) (fun q3 => no ?_) (fun q3 => ?_)
  · rw [Int32.lt_iff_toInt_lt] at q3
    omega
  rw [Int32.lt_iff_toInt_lt] at q3
  refine lv_iload_n X.1 X.2.1 (show decode cX5_reaches 16 = .ok (.iload_n 1, 1) by decide +kernel) rfl (lv_at hl 1 rfl) ?_
  refine lv_aload_n X.1 X.2.1 (show decode cX5_reaches 17 = .ok (.aload_n 0, 1) by decide +kernel) rfl (lv_at hl 0 rfl) ?_
  refine bx_get fl_X5_ok (i := 19) rfl X hH hr h2 (show decode cX5_reaches 18 = .ok (.getfield 19, 3) by decide +kernel) ?_
  refine lv_iload_n X.1 X.2.1 (show decode cX5_reaches 21 = .ok (.iload_n 2, 1) by decide +kernel) rfl (lv_at hl 2 rfl) ?_
  refine lv_isub X.1 X.2.1 (show decode cX5_reaches 22 = .ok (.isub, 1) by decide +kernel) ?_
  have es : (z - k).toInt = z.toInt - k.toInt := by
    rw [Int32.toInt_sub, bm32 (by omega) (by omega)]
  refine lv_icmp_gt (tgt := 30) X.1 X.2.1 (show decode cX5_reaches 23 = .ok (.if_icmp .gt 7, 3) by decide +kernel) (by decide) (fun q4 => no ?_) (fun q4 => ?_)
  · rw [Int32.lt_iff_toInt_lt, es] at q4
    omega
  rw [Int32.lt_iff_toInt_lt, es] at q4
  refine lv_iconst (v := 1) X.1 X.2.1 (show decode cX5_reaches 26 = .ok (.iconst 1, 1) by decide +kernel) (by decide) ?_
  refine lv_goto (tgt := 31) X.1 X.2.1 (show decode cX5_reaches 27 = .ok (.goto 4, 3) by decide +kernel) (by decide) ?_
  exact px_zret X hH (by rw [if_pos (by omega)]) rfl (show decode cX5_reaches 31 = .ok (.ireturn, 1) by decide +kernel)
/-- what paste answers, of full, width and size -/
def cpsA (f : Nat → va_E) (lo : Nat) (slot i to k n : Int) : Int := if ¬ (0 ≤ slot ∧ slot ≤ 3) ∨ ¬ (0 ≤ to ∧ to ≤ 3) then -2 else if cv f (lo + (296 + 2 * slot.toNat)) 0 = 0 ∨ cv f (lo + (296 + 2 * to.toNat)) 0 = 0 then -6 else if cv f (lo + (296 + 2 * slot.toNat)) 1 ≠ cv f (lo + (296 + 2 * to.toNat)) 1 then -8 else if ¬ (0 ≤ i ∧ 0 ≤ n ∧ i + n ≤ cv f (lo + (296 + 2 * slot.toNat)) 2) ∨ ¬ (0 ≤ k ∧ 0 ≤ n ∧ k + n ≤ cv f (lo + (296 + 2 * to.toNat)) 2) then -7 else 0
theorem IC_num {b : Bool} {t : Nat → ClassId} {lo s : Nat} {f : Nat → va_E} {g : Nat → Int64} (hI : IC b t lo f) (hs : s < 4) : IC b t lo (va_up f (lo + (297 + 2 * s)) (.inl (t 1, 60, .inr (.inl g)))) ∧ KCL b lo f (va_up f (lo + (297 + 2 * s)) (.inl (t 1, 60, .inr (.inl g)))) := by
  have off : ∀ j o k : Nat, (Ec b).2.2.2[j]? = some (o, k) → o ≠ 297 + 2 * s := by
    intro j o k hj
    have hlt : j < 28 := by rw [← trc_len b]; exact (List.getElem?_eq_some_iff.mp hj).1
    have h0 : (List.range 28).all (fun j => (List.range 4).all (fun s => decide (((Ec b).2.2.2.getD j (0, 0)).1 ≠ 297 + 2 * s))) = true := by cases b <;> decide +kernel
    have := of_decide_eq_true (List.all_eq_true.mp (List.all_eq_true.mp h0 j (List.mem_range.mpr hlt)) s (List.mem_range.mpr hs))
    rw [List.getD_eq_getElem?_getD, hj] at this
    exact this
  refine ⟨⟨?_, fun j o k P hj hP => ?_⟩, fun j o k _ hj => ?_⟩
  · have up : ∀ k : Nat, (k, 297 + 2 * s) ∈ crU → (Ec b).1[k]? = some (.inr (1, 60, .inl (-9223372036854775808, 9223372036854775807, [], []))) → TYP (Ec b) (xtc t lo) t lo (va_up f (lo + (297 + 2 * s)) (.inl (t 1, 60, .inr (.inl g)))) := fun k hk hK => TYP_up (i := 297 + 2 * s) hI.1 ((crU_at hk).mpr rfl) hK ⟨g, rfl, fun i _ => ⟨Int64.le_toInt _, Int64.toInt_le _⟩⟩
    match s, hs with
    | 0, _ => exact up 102 (by decide) rfl
    | 1, _ => exact up 104 (by decide) rfl
    | 2, _ => exact up 106 (by decide) rfl
    | 3, _ => exact up 108 (by decide) rfl
  · have := off j o k hj
    rw [va_up_ne _ _ (by omega)]
    exact hI.2 j o k P hj hP
  · have := off j o k hj
    unfold cv
    rw [va_up_ne _ _ (by omega)]
abbrev YpstC : XY := (yX10_paste, cX10_paste, 8, some .int, 1)
abbrev PCZ (b : Bool) (t : Nat → ClassId) (lo : Nat) (f : Nat → va_E) (a : Int) : Option Value → (Nat → va_E) → Prop := fun ov f2 => ∃ r : Int32, ov = some (.int r) ∧ r.toInt = a ∧ IC b t lo f2 ∧ KCL b lo f f2
theorem C_paste (b : Bool) (l : Launch) (D : va_G) (t : Nat → ClassId) (lo : Nat) {f : Nat → va_E} (hI : IC b t lo f) (a i c2 k n : Int32) : MetZ l YpstC D t lo 304 f [.ref lo, .int a, .int i, .int c2, .int k, .int n] (PCZ b t lo f (cpsA f lo a.toInt i.toInt c2.toInt k.toInt n.toInt)) := by
  obtain ⟨fs, g, R0, R2, R4, RS⟩ := IC_rows hI
  refine MetZ.beg (by decide +kernel) (Nat.le_of_ble_eq_true rfl) ?_
  intro p e s0 m below meth c X hH ls hl
  have hl : lv_has ls 8 [(0, .ref lo), (1, .int a), (2, .int i), (3, .int c2), (4, .int k), (5, .int n)] := hl
  have k0 : px_at lo 304 f lo (.inr (10, fs)) := ⟨⟨by omega, by omega⟩, R0⟩
  have k4 : px_at lo 304 f (lo + 4) (.inl (t 6, 4, .inr (.inr (.inr (.inr g))))) := ⟨⟨by omega, by omega⟩, R4⟩
  have K0 : KCL b lo f f := fun _ _ _ _ _ => rfl
  generalize hA : cpsA f lo a.toInt i.toInt c2.toInt k.toInt n.toInt = A
  unfold cpsA at hA
  have b2 : -2 = A → ∀ (H2 : Heap) (locs2 : List Loc) (ls : Array Slot), HX D t lo 304 f (px_A lo 304) s0 H2 locs2 → W p l e (px_rm 1) s0 m [Value.ref lo, .int a, .int i, .int c2, .int k, .int n].toArray below meth c H2 locs2 0 0 (MQ below (QcZ D lo 304 (PCZ b t lo f A)) [Value.ref lo, .int a, .int i, .int c2, .int k, .int n].toArray s0 0 0 (px_A lo 304)) (F0 m 14 ls []) := by
    intro hv H2 locs2 ls hH2
    refine lv_bipush (v := -2) X.1 X.2.1 (show decode cX10_paste 14 = .ok (.bipush (-2), 2) by decide +kernel) (by decide) ?_
    exact z_iret X hH2 ⟨-2, rfl, by rw [← hv]; rfl, hI, K0⟩ (show decode cX10_paste 16 = .ok (.ireturn, 1) by decide +kernel)
  have b6 : -6 = A → ∀ (H2 : Heap) (locs2 : List Loc) (ls : Array Slot), HX D t lo 304 f (px_A lo 304) s0 H2 locs2 → W p l e (px_rm 1) s0 m [Value.ref lo, .int a, .int i, .int c2, .int k, .int n].toArray below meth c H2 locs2 0 0 (MQ below (QcZ D lo 304 (PCZ b t lo f A)) [Value.ref lo, .int a, .int i, .int c2, .int k, .int n].toArray s0 0 0 (px_A lo 304)) (F0 m 49 ls []) := by
    intro hv H2 locs2 ls hH2
    refine lv_bipush (v := -6) X.1 X.2.1 (show decode cX10_paste 49 = .ok (.bipush (-6), 2) by decide +kernel) (by decide) ?_
    exact z_iret X hH2 ⟨-6, rfl, by rw [← hv]; rfl, hI, K0⟩ (show decode cX10_paste 51 = .ok (.ireturn, 1) by decide +kernel)
  have b8 : -8 = A → ∀ (H2 : Heap) (locs2 : List Loc) (ls : Array Slot), HX D t lo 304 f (px_A lo 304) s0 H2 locs2 → W p l e (px_rm 1) s0 m [Value.ref lo, .int a, .int i, .int c2, .int k, .int n].toArray below meth c H2 locs2 0 0 (MQ below (QcZ D lo 304 (PCZ b t lo f A)) [Value.ref lo, .int a, .int i, .int c2, .int k, .int n].toArray s0 0 0 (px_A lo 304)) (F0 m 65 ls []) := by
    intro hv H2 locs2 ls hH2
    refine lv_bipush (v := -8) X.1 X.2.1 (show decode cX10_paste 65 = .ok (.bipush (-8), 2) by decide +kernel) (by decide) ?_
    exact z_iret X hH2 ⟨-8, rfl, by rw [← hv]; rfl, hI, K0⟩ (show decode cX10_paste 67 = .ok (.ireturn, 1) by decide +kernel)
  have b7 : -7 = A → ∀ (H2 : Heap) (locs2 : List Loc) (ls : Array Slot), HX D t lo 304 f (px_A lo 304) s0 H2 locs2 → W p l e (px_rm 1) s0 m [Value.ref lo, .int a, .int i, .int c2, .int k, .int n].toArray below meth c H2 locs2 0 0 (MQ below (QcZ D lo 304 (PCZ b t lo f A)) [Value.ref lo, .int a, .int i, .int c2, .int k, .int n].toArray s0 0 0 (px_A lo 304)) (F0 m 91 ls []) := by
    intro hv H2 locs2 ls hH2
    refine lv_bipush (v := -7) X.1 X.2.1 (show decode cX10_paste 91 = .ok (.bipush (-7), 2) by decide +kernel) (by decide) ?_
    exact z_iret X hH2 ⟨-7, rfl, by rw [← hv]; rfl, hI, K0⟩ (show decode cX10_paste 93 = .ok (.ireturn, 1) by decide +kernel)
  refine lv_iload_n X.1 X.2.1 (show decode cX10_paste 0 = .ok (.iload_n 1, 1) by decide +kernel) rfl (lv_at hl 1 rfl) ?_
  refine px_callS (k := 0) (idx := 261) (na := 1) (As := [.int a]) (rest := []) X hH (c_slotC l D t lo 304 f a) mw_839 mw_840 mw_1 mw_841 (by decide +kernel) ⟨by decide, by decide⟩ ⟨Nat.le_refl _, Nat.le_refl _⟩ hl.1 rfl rfl (by decide) (show decode cX10_paste 1 = .ok (.invokestatic 261, 3) by decide +kernel) (fun H1 locs1 hH _ => ?_)
  refine lv_if_eq (tgt := 14) X.1 X.2.1 (show decode cX10_paste 4 = .ok (.ifCond .eq 10, 3) by decide +kernel) (by decide) (fun z => b2 ?_ H1 locs1 ls hH) (fun z => ?_)
  · have hn : ¬ (0 ≤ a.toInt ∧ a.toInt ≤ 3) := fun h => by rw [if_pos h] at z; exact absurd z (by decide)
    rw [if_pos (Or.inl hn)] at hA
    exact hA
  have hys : 0 ≤ a.toInt ∧ a.toInt ≤ 3 := by
    by_cases h : 0 ≤ a.toInt ∧ a.toInt ≤ 3
    · exact h
    · rw [if_neg h] at z; exact absurd rfl z
  obtain ⟨s, es⟩ : ∃ s : Nat, a.toInt = (s : Int) := ⟨a.toInt.toNat, by omega⟩
  have fs := toI es (by omega)
  subst fs
  refine lv_iload_n X.1 X.2.1 (show decode cX10_paste 7 = .ok (.iload_n 3, 1) by decide +kernel) rfl (lv_at hl 3 rfl) ?_
  refine px_callS (k := 0) (idx := 261) (na := 1) (As := [.int c2]) (rest := []) X hH (c_slotC l D t lo 304 f c2) mw_839 mw_840 mw_1 mw_841 (by decide +kernel) ⟨by decide, by decide⟩ ⟨Nat.le_refl _, Nat.le_refl _⟩ hl.1 rfl rfl (by decide) (show decode cX10_paste 8 = .ok (.invokestatic 261, 3) by decide +kernel) (fun H2 locs2 hH _ => ?_)
  refine lv_if_ne (tgt := 17) X.1 X.2.1 (show decode cX10_paste 11 = .ok (.ifCond .ne 6, 3) by decide +kernel) (by decide) (fun z2 => ?_) (fun z2 => b2 ?_ H2 locs2 ls hH)
  rotate_left
  · have hn : ¬ (0 ≤ c2.toInt ∧ c2.toInt ≤ 3) := fun h => by rw [if_pos h] at z2; exact absurd z2 (by decide)
    rw [if_pos (Or.inr hn)] at hA
    exact hA
  have hyu : 0 ≤ c2.toInt ∧ c2.toInt ≤ 3 := by
    by_cases h : 0 ≤ c2.toInt ∧ c2.toInt ≤ 3
    · exact h
    · rw [if_neg h] at z2; exact absurd rfl z2
  obtain ⟨u, eu⟩ : ∃ u : Nat, c2.toInt = (u : Int) := ⟨c2.toInt.toNat, by omega⟩
  have fu := toI eu (by omega)
  subst fu
  rw [if_neg (by omega)] at hA
  obtain ⟨hgs, rs, a1, w1, m1, gn1, x0, x1, x2, x3, x4, x5, x6, x7⟩ := RS s (by omega)
  obtain ⟨hgu, ru, a2, w2, m2, gn2, y0, y1, y2, y3, y4, y5, y6, y7⟩ := RS u (by omega)
  have cs : ∀ (q : Nat) (x : Int32), rs[q]? = some (.int x) → cv f (lo + (296 + 2 * (nI s).toInt.toNat)) q = x.toInt := fun q x h => by rw [es, Int.toNat_natCast]; exact cv_of (v := .int x) (show cellv (f (lo + (296 + 2 * s))) q = some (.int x) by rw [x0]; exact h)
  have cu : ∀ (q : Nat) (x : Int32), ru[q]? = some (.int x) → cv f (lo + (296 + 2 * (nI u).toInt.toNat)) q = x.toInt := fun q x h => by rw [eu, Int.toNat_natCast]; exact cv_of (v := .int x) (show cellv (f (lo + (296 + 2 * u))) q = some (.int x) by rw [y0]; exact h)
  rw [cs 0 a1 x1, cu 0 a2 y1, cs 1 w1 x2, cu 1 w2 y2, cs 2 m1 x3, cu 2 m2 y3] at hA
  have ks : px_at lo 304 f (lo + (296 + 2 * s)) (.inr (5, rs)) := ⟨⟨by omega, by omega⟩, x0⟩
  have ku : px_at lo 304 f (lo + (296 + 2 * u)) (.inr (5, ru)) := ⟨⟨by omega, by omega⟩, y0⟩
  refine lv_aload_n X.1 X.2.1 (show decode cX10_paste 17 = .ok (.aload_n 0, 1) by decide +kernel) rfl (lv_at hl 0 rfl) ?_
  refine bx_get fl_Q_ok (i := 24) rfl X hH k0 R2 (show decode cX10_paste 18 = .ok (.getfield 24, 3) by decide +kernel) ?_
  refine lv_iload_n X.1 X.2.1 (show decode cX10_paste 21 = .ok (.iload_n 1, 1) by decide +kernel) rfl (lv_at hl 1 rfl) ?_
  refine px_aald X hH 6 k4 rfl (nI_in (show s < 4 by omega) (by decide)) (by rw [nI_clamp (by omega)]; exact hgs) (show decode cX10_paste 22 = .ok (.aaload, 1) by decide +kernel) ?_
  refine lv_astore X.1 X.2.1 (show decode cX10_paste 23 = .ok (.astore 6, 2) by decide +kernel) hl (by decide) rfl (fun ls hl => ?_)
  have hl : lv_has ls 8 [(6, .ref (lo + (296 + 2 * s))), (0, .ref lo), (1, .int (nI s)), (2, .int i), (3, .int (nI u)), (4, .int k), (5, .int n)] := hl
  refine lv_aload_n X.1 X.2.1 (show decode cX10_paste 25 = .ok (.aload_n 0, 1) by decide +kernel) rfl (lv_at hl 1 rfl) ?_
  refine bx_get fl_Q_ok (i := 24) rfl X hH k0 R2 (show decode cX10_paste 26 = .ok (.getfield 24, 3) by decide +kernel) ?_
  refine lv_iload_n X.1 X.2.1 (show decode cX10_paste 29 = .ok (.iload_n 3, 1) by decide +kernel) rfl (lv_at hl 4 rfl) ?_
  refine px_aald X hH 6 k4 rfl (nI_in (show u < 4 by omega) (by decide)) (by rw [nI_clamp (by omega)]; exact hgu) (show decode cX10_paste 30 = .ok (.aaload, 1) by decide +kernel) ?_
  refine lv_astore X.1 X.2.1 (show decode cX10_paste 31 = .ok (.astore 7, 2) by decide +kernel) hl (by decide) rfl (fun ls hl => ?_)
  have hl : lv_has ls 8 [(7, .ref (lo + (296 + 2 * u))), (6, .ref (lo + (296 + 2 * s))), (0, .ref lo), (1, .int (nI s)), (2, .int i), (3, .int (nI u)), (4, .int k), (5, .int n)] := hl
  refine lv_aload X.1 X.2.1 (show decode cX10_paste 33 = .ok (.aload 6, 2) by decide +kernel) (lv_at hl 1 rfl) ?_
  refine bx_get fl_Q_ok (i := 264) rfl X hH ks x1 (show decode cX10_paste 35 = .ok (.getfield 264, 3) by decide +kernel) ?_
  refine lv_if_eq (tgt := 49) X.1 X.2.1 (show decode cX10_paste 38 = .ok (.ifCond .eq 11, 3) by decide +kernel) (by decide) (fun z3 => b6 ?_ H2 locs2 ls hH) (fun z3 => ?_)
  · rw [if_pos (Or.inl (by rw [z3]; rfl))] at hA; exact hA
  refine lv_aload X.1 X.2.1 (show decode cX10_paste 41 = .ok (.aload 7, 2) by decide +kernel) (lv_at hl 0 rfl) ?_
  refine bx_get fl_Q_ok (i := 264) rfl X hH ku y1 (show decode cX10_paste 43 = .ok (.getfield 264, 3) by decide +kernel) ?_
  refine lv_if_ne (tgt := 52) X.1 X.2.1 (show decode cX10_paste 46 = .ok (.ifCond .ne 6, 3) by decide +kernel) (by decide) (fun z4 => ?_) (fun z4 => b6 ?_ H2 locs2 ls hH)
  rotate_left
  · rw [if_pos (Or.inr (by rw [z4]; rfl))] at hA; exact hA
  have n3 : a1.toInt ≠ 0 := fun h => z3 (Int32.toInt_inj.mp (by rw [h]; rfl))
  have n4 : a2.toInt ≠ 0 := fun h => z4 (Int32.toInt_inj.mp (by rw [h]; rfl))
  rw [if_neg (by omega)] at hA
  refine lv_aload X.1 X.2.1 (show decode cX10_paste 52 = .ok (.aload 6, 2) by decide +kernel) (lv_at hl 1 rfl) ?_
  refine bx_get fl_Q_ok (i := 434) rfl X hH ks x2 (show decode cX10_paste 54 = .ok (.getfield 434, 3) by decide +kernel) ?_
  refine lv_aload X.1 X.2.1 (show decode cX10_paste 57 = .ok (.aload 7, 2) by decide +kernel) (lv_at hl 0 rfl) ?_
  refine bx_get fl_Q_ok (i := 434) rfl X hH ku y2 (show decode cX10_paste 59 = .ok (.getfield 434, 3) by decide +kernel) ?_
  refine lv_icmp_eq (tgt := 68) X.1 X.2.1 (show decode cX10_paste 62 = .ok (.if_icmp .eq 6, 3) by decide +kernel) (by decide) (fun z5 => ?_) (fun z5 => b8 ?_ H2 locs2 ls hH)
  rotate_left
  · rw [if_pos (fun h => z5 (Int32.toInt_inj.mp h))] at hA; exact hA
  rw [if_neg (by rw [z5]; exact fun h => h rfl)] at hA
  refine lv_aload X.1 X.2.1 (show decode cX10_paste 68 = .ok (.aload 6, 2) by decide +kernel) (lv_at hl 1 rfl) ?_
  refine lv_iload_n X.1 X.2.1 (show decode cX10_paste 70 = .ok (.iload_n 2, 1) by decide +kernel) rfl (lv_at hl 4 rfl) ?_
  refine lv_iload X.1 X.2.1 (show decode cX10_paste 71 = .ok (.iload 5, 2) by decide +kernel) (lv_at hl 7 rfl) ?_
  refine px_callV (k := 0) (idx := 437) (na := 2) (b := lo + (296 + 2 * s)) (As := [.int i, .int n]) (rest := []) X hH (c_reaches l D t lo 304 f ks x3 x7 i n) ks (rfl : vwCl[5]? = some _) mw_1249 mw_1250 mw_1251 mw_11 mw_1252 (by decide +kernel) ⟨by decide, by decide⟩ ⟨Nat.le_refl _, Nat.le_refl _⟩ hl.1 rfl rfl (by decide) (show decode cX10_paste 73 = .ok (.invokevirtual 437, 3) by decide +kernel) (fun H3 locs3 hH _ => ?_)
  refine lv_if_eq (tgt := 91) X.1 X.2.1 (show decode cX10_paste 76 = .ok (.ifCond .eq 15, 3) by decide +kernel) (by decide) (fun z6 => b7 ?_ H3 locs3 ls hH) (fun z6 => ?_)
  · have hn : ¬ (0 ≤ i.toInt ∧ 0 ≤ n.toInt ∧ i.toInt + n.toInt ≤ m1.toInt) := fun h => by rw [if_pos h] at z6; exact absurd z6 (by decide)
    rw [if_pos (Or.inl hn)] at hA; exact hA
  have h6 : 0 ≤ i.toInt ∧ 0 ≤ n.toInt ∧ i.toInt + n.toInt ≤ m1.toInt := by
    by_cases h : 0 ≤ i.toInt ∧ 0 ≤ n.toInt ∧ i.toInt + n.toInt ≤ m1.toInt
    · exact h
    · rw [if_neg h] at z6; exact absurd rfl z6
  refine lv_aload X.1 X.2.1 (show decode cX10_paste 79 = .ok (.aload 7, 2) by decide +kernel) (lv_at hl 0 rfl) ?_
  refine lv_iload X.1 X.2.1 (show decode cX10_paste 81 = .ok (.iload 4, 2) by decide +kernel) (lv_at hl 6 rfl) ?_
  refine lv_iload X.1 X.2.1 (show decode cX10_paste 83 = .ok (.iload 5, 2) by decide +kernel) (lv_at hl 7 rfl) ?_
  refine px_callV (k := 0) (idx := 437) (na := 2) (b := lo + (296 + 2 * u)) (As := [.int k, .int n]) (rest := []) X hH (c_reaches l D t lo 304 f ku y3 y7 k n) ku (rfl : vwCl[5]? = some _) mw_1249 mw_1250 mw_1251 mw_11 mw_1252 (by decide +kernel) ⟨by decide, by decide⟩ ⟨Nat.le_refl _, Nat.le_refl _⟩ hl.1 rfl rfl (by decide) (show decode cX10_paste 85 = .ok (.invokevirtual 437, 3) by decide +kernel) (fun H4 locs4 hH _ => ?_)
  refine lv_if_ne (tgt := 94) X.1 X.2.1 (show decode cX10_paste 88 = .ok (.ifCond .ne 6, 3) by decide +kernel) (by decide) (fun z7 => ?_) (fun z7 => b7 ?_ H4 locs4 ls hH)
  rotate_left
  · have hn : ¬ (0 ≤ k.toInt ∧ 0 ≤ n.toInt ∧ k.toInt + n.toInt ≤ m2.toInt) := fun h => by rw [if_pos h] at z7; exact absurd z7 (by decide)
    rw [if_pos (Or.inr hn)] at hA; exact hA
  have h7 : 0 ≤ k.toInt ∧ 0 ≤ n.toInt ∧ k.toInt + n.toInt ≤ m2.toInt := by
    by_cases h : 0 ≤ k.toInt ∧ 0 ≤ n.toInt ∧ k.toInt + n.toInt ≤ m2.toInt
    · exact h
    · rw [if_neg h] at z7; exact absurd rfl z7
  rw [if_neg (by omega)] at hA
  refine lv_aload X.1 X.2.1 (show decode cX10_paste 94 = .ok (.aload 6, 2) by decide +kernel) (lv_at hl 1 rfl) ?_
  refine bx_get fl_Q_ok (i := 440) rfl X hH ks x4 (show decode cX10_paste 96 = .ok (.getfield 440, 3) by decide +kernel) ?_
  refine lv_iload_n X.1 X.2.1 (show decode cX10_paste 99 = .ok (.iload_n 2, 1) by decide +kernel) rfl (lv_at hl 4 rfl) ?_
  refine lv_aload X.1 X.2.1 (show decode cX10_paste 100 = .ok (.aload 7, 2) by decide +kernel) (lv_at hl 0 rfl) ?_
  refine bx_get fl_Q_ok (i := 440) rfl X hH ku y4 (show decode cX10_paste 102 = .ok (.getfield 440, 3) by decide +kernel) ?_
  refine lv_iload X.1 X.2.1 (show decode cX10_paste 105 = .ok (.iload 4, 2) by decide +kernel) (lv_at hl 6 rfl) ?_
  refine lv_iload X.1 X.2.1 (show decode cX10_paste 107 = .ok (.iload 5, 2) by decide +kernel) (lv_at hl 7 rfl) ?_
  obtain ⟨ii, eii⟩ : ∃ ii : Nat, i.toInt = (ii : Int) := ⟨i.toInt.toNat, by omega⟩
  have fii := toI eii (by omega)
  subst fii
  obtain ⟨kk, ekk⟩ : ∃ kk : Nat, k.toInt = (kk : Int) := ⟨k.toInt.toNat, by omega⟩
  have fkk := toI ekk (by omega)
  subst fkk
  obtain ⟨nn, enn⟩ : ∃ nn : Nat, n.toInt = (nn : Int) := ⟨n.toInt.toNat, by omega⟩
  have fnn := toI enn (by omega)
  subst fnn
  have nneg : ∀ q : Nat, q < 2 ^ 31 → ¬ nI q < 0 := fun q hq h => by
    rw [Int32.lt_iff_toInt_lt, nI_toInt hq, show (0 : Int32).toInt = 0 from rfl] at h
    omega
  have hat : px_at lo 304 f (lo + (297 + 2 * s)) (.inl (t 1, 60, .inr (.inl gn1))) := ⟨⟨by omega, by omega⟩, x5⟩
  have hbt : px_at lo 304 f (lo + (297 + 2 * u)) (.inl (t 1, 60, .inr (.inl gn2))) := ⟨⟨by omega, by omega⟩, y5⟩
  refine va_copyl (D := D) (cl := vwCl) (ws := px_W lo 304 f) X.1 X.2.1 (by rw [X.2.2.1, hl.1]) X.2.2.2.1 (X.2.2.2.2.1 _ mw_1253) (X.2.2.2.2.1 _ mw_1215) (X.2.2.2.2.1 _ mw_1214) (X.2.2.2.2.1 _ mw_20) hH.1 hH.2.1 (px_D hH.2.2.1.1) hH.2.2.2 (lo + (297 + 2 * s) - lo) (lo + (297 + 2 * u) - lo) 1 1 (ty := .long) (by rw [px_get hat.1, hat.2]) (by rw [px_get hbt.1, hbt.2]) rfl rfl rfl (nneg ii (by omega)) (nneg kk (by omega)) (nneg nn (by omega)) (by rw [nI_clamp (by omega), nI_clamp (by omega)]; omega) (by rw [nI_clamp (by omega), nI_clamp (by omega)]; omega) (fun _ _ => rfl) (by decide) (by decide +kernel) (show decode cX10_paste 109 = .ok (.invokestatic 443, 3) by decide +kernel) (fun H5 locs5 hP _ hS => ?_)
  rw [px_set hbt.1] at hP
  have hH5 : HX D t lo 304 _ (px_A lo 304) s0 H5 locs5 := ⟨hH.1, hP, hH.2.2.1, hS⟩
  obtain ⟨J, K⟩ := IC_num (s := u) (g := va_cpy gn1 gn2 (nI ii).toNatClampNeg (nI kk).toNatClampNeg (nI nn).toNatClampNeg) hI (by omega)
  refine lv_iconst (v := 0) X.1 X.2.1 (show decode cX10_paste 112 = .ok (.iconst 0, 1) by decide +kernel) (by decide) ?_
  exact z_iret X hH5 ⟨0, rfl, by rw [← hA]; rfl, J, K⟩ (show decode cX10_paste 113 = .ok (.ireturn, 1) by decide +kernel)
