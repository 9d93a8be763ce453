/-! THE LAW: its end, its cases -/
def lw_Q (_ : Array Value) (s : State) (o : Outcome) (t : State) : Prop := o = .returned (some (.int 1)) ∧ Framed s o t [] 600000 7302249
def lw_Z (below : List Frame) (a : Array Value) (s : State) : State → Prop := fun t => ∃ o, t.status = .running ∧ Ended t below o ∧ lw_Q a s o t
theorem lw_ret {p : Program} {l : Launch} {e : Env} {s : State} {m : MethodId} {below : List Frame} {meth : Method} {c : Code} {b : Nat} (hx : p.tables.exec = Jvm.exec) (hb : c.code = code) (hr : meth.sig.returnType = ret) (hlocks : meth.locks = false) {pc : Nat} {H : Heap} {ls : Array Slot} (hdg : decode code pc = .ok (.ireturn, 1)) : W p l e room_1 s m #[Value.ref b] below meth c H [] 600000 7302249 (lw_Z below #[Value.ref b] s) (F0 m pc ls [.int 1]) := by
  intro T hT X
  obtain ⟨fs, hret, hrun, hended, hW, hframe⟩ := X.leave (v := some (.int 1)) (hlocks := hlocks) (fun h => by rw [hr] at h; cases h)
  have hmeth' : T.vm.method? m = some meth := X.method'
  refine ⟨T.setFrames fs, ?_, .returned (some (.int 1)), hrun, hended, rfl, ⟨_, rfl⟩, hW, hframe⟩
  jvm_step X.here [X.here.top, hx, hb, hdg, hmeth', hr, ret, narrow_b1]
  (try refine ⟨rfl, ?_⟩); (try refine ⟨rfl, ?_⟩)
  first | (intro acts; rw [hret _ acts rfl rfl rfl]) | rw [hret _ _ rfl rfl rfl]
  exact Steps.refl _
def dq (cc : ByteArray) (pc : Nat) (ins : Instr) (len : Nat) : Bool := match decode cc pc with
  | .ok (i, l) => decide (i = ins) && l == len
  | .error _ => false
theorem dq_ok {cc : ByteArray} {pc : Nat} {ins : Instr} {len : Nat} (h : dq cc pc ins len = true) : decode cc pc = .ok (ins, len) := by
  unfold dq at h
  split at h
  · rename_i i l e
    simp only [Bool.and_eq_true, decide_eq_true_eq, beq_iff_eq] at h
    rw [e, h.1, h.2]
  · cases h
/-- arguments out of the script: aload_0, iload_3, iconst k, iadd, iaload -/
def ldec (cc : ByteArray) : Nat → List Nat → Bool
  | _, [] => true
  | pc, k :: ks => dq cc pc (.aload_n 0) 1 && dq cc (pc + 1) (.iload_n 3) 1 && dq cc (pc + 2) (.iconst (k : Int)) 1 && dq cc (pc + 3) .iadd 1 && dq cc (pc + 4) .iaload 1 && decide (k ≤ 5) && ldec cc (pc + 5) ks
/-- locals of the law: the place in the script, the reference, the class, the script -/
abbrev lawL (b lo : Nat) (i : Int32) : List (Nat × Value) := [(3, .int i), (2, .ref (lo + 304)), (1, .ref lo), (0, .ref b)]
/-- where a case of the law begins -/
def LCT (p : Program) (l : Launch) (e : Env) (s : State) (m : MethodId) (below : List Frame) (meth : Method) (c : Code) (b L : Nat) (xs : Nat → Int32) (D : va_G) (t : Nat → ClassId) (ls : Array Slot) (i : Int32) (J cells slots : Nat) : Prop :=
  CX p s m #[.ref b] meth c RL code 4 ret ∧ va_X b L xs s s.heap ∧ b < s.heap.size ∧ (L ≤ 3072 ∧ i.toInt = J ∧ J + 6 ≤ L) ∧ lv_has ls 4 (lawL b s.heap.size i) ∧ (cells ≤ room_1.cells ∧ slots ≤ room_1.slots) ∧
  (∀ (H1 : Heap) (locs1 : List Loc), LAWI D t s.heap.size (s.heap.size + 304) (fun q => s.heap.size ≤ q) s H1 locs1 → W p l e room_1 s m #[.ref b] below meth c H1 locs1 cells slots (lw_Z below #[.ref b] s) (F0 m 1889 ls []))
section
variable {p : Program} {l : Launch} {e : Env} {s : State} {m : MethodId} {below : List Frame} {meth : Method} {c : Code} {H : Heap} {locs : List Loc} {cells slots : Nat} {Q : State → Prop}
variable {D : va_G} {t : Nat → ClassId} {b L J : Nat} {i : Int32} {xs : Nat → Int32} {ls : Array Slot} {st : List Value}
theorem larg_ok (hC : LCT p l e s m below meth c b L xs D t ls i J cells slots) (hS : va_S (fun q => s.heap.size ≤ q) s.heap H locs) : ∀ (ks : List Nat) (pc : Nat) (st : List Value), ldec code pc ks = true → W p l e room_1 s m #[.ref b] below meth c H locs cells slots Q (F0 m (pc + 5 * ks.length) ls ((ks.map (fun k => Value.int (xs (J + k)))).reverse ++ st)) → W p l e room_1 s m #[.ref b] below meth c H locs cells slots Q (F0 m pc ls st) := by
  intro ks
  have hC0 := hC
  obtain ⟨X, hX, hbl, ⟨hL, hi, hJ⟩, hl, -, -⟩ := hC
  have hbA : ¬ (fun q : Nat => s.heap.size ≤ q) b := Nat.not_le.mpr hbl
  induction ks with
  | nil =>
    intro pc st _ kk
    simp only [List.length_nil, Nat.mul_zero, Nat.add_zero, List.map_nil, List.reverse_nil, List.nil_append] at kk
    exact kk
  | cons k ks ih =>
    intro pc st h kk
    simp only [ldec, Bool.and_eq_true, decide_eq_true_eq] at h
    obtain ⟨⟨⟨⟨⟨⟨h0, h1⟩, h2⟩, h3⟩, h4⟩, h5⟩, h6⟩ := h
    have hk : (Int32.ofInt (k : Int)).toInt = k := Int32.toInt_ofInt_of_le (by omega) (by omega)
    have hik : (i + Int32.ofInt (k : Int)).toInt = ((J + k : Nat) : Int) := by
      rw [Int32.toInt_add, hi, hk]
      rw [Int.bmod_eq_of_le (by omega) (by omega)]
      omega
    refine lv_aload_n X.1 X.2.1 (dq_ok h0) rfl (lv_at hl 3 rfl) ?_
    refine lv_iload_n X.1 X.2.1 (dq_ok h1) rfl (lv_at hl 0 rfl) ?_
    refine lv_iconst X.1 X.2.1 (dq_ok h2) rfl ?_
    refine lv_iadd X.1 X.2.1 (dq_ok h3) ?_
    have hc : (i + Int32.ofInt (k : Int)).toNatClampNeg = J + k := by
      show (i + Int32.ofInt (k : Int)).toInt.toNat = J + k
      rw [hik]; rfl
    refine va_sld X.1 X.2.1 hX hbl hbA hS (vp_in_iff.mpr ⟨by omega, by omega⟩) (dq_ok h4) ?_
    rw [hc]
    refine ih (pc + 5) _ h6 ?_
    simp only [List.length_cons, List.map_cons, List.reverse_cons, List.append_assoc, List.cons_append, List.nil_append] at kk
    rw [show pc + 5 + 5 * ks.length = pc + 5 * (ks.length + 1) by omega]
    exact kk
/-- the long that write is given -/
def wrV (xs : Nat → Int32) (J : Nat) : Int64 := (xs (J + 3)).toInt64 <<< ((32 : Int32).toInt64 &&& 63) ||| ((xs (J + 4)).toInt64 &&& 4294967295)
def wdec (cc : ByteArray) (pc : Nat) : Bool := ldec cc pc [1, 2, 3] && dq cc (pc + 15) .i2l 1 && dq cc (pc + 16) (.bipush 32) 2 && dq cc (pc + 18) .lshl 1 && ldec cc (pc + 19) [4] && dq cc (pc + 24) .i2l 1 && dq cc (pc + 25) (.ldc2_w 266) 3 && dq cc (pc + 28) .land 1 && dq cc (pc + 29) .lor 1
theorem mw_2001 : Jvm.Cond.constantLong "BellMoneyLaw" (266 : Nat) (4294967295 : Int64) ∈ Wd := List.mem_filter.mpr ⟨List.mem_of_getElem? (i := 2103) (by decide +kernel), by decide +kernel⟩
theorem lwr_ok (hC : LCT p l e s m below meth c b L xs D t ls i J cells slots) (hS : va_S (fun q => s.heap.size ≤ q) s.heap H locs) (pc : Nat) (st : List Value) (h : wdec code pc = true) (kk : W p l e room_1 s m #[.ref b] below meth c H locs cells slots Q (F0 m (pc + 30) ls (.long (wrV xs J) :: .int (xs (J + 2)) :: .int (xs (J + 1)) :: st))) : W p l e room_1 s m #[.ref b] below meth c H locs cells slots Q (F0 m pc ls st) := by
  simp only [wdec, Bool.and_eq_true] at h
  obtain ⟨⟨⟨⟨⟨⟨⟨⟨h1, h2⟩, h3⟩, h4⟩, h5⟩, h6⟩, h7⟩, h8⟩, h9⟩ := h
  have X := hC.1
  refine larg_ok hC hS [1, 2, 3] pc st h1 ?_
  refine lv_i2l X.1 X.2.1 (dq_ok h2) rfl ?_
  refine lv_bipush (v := 32) X.1 X.2.1 (dq_ok h3) (by decide) ?_
  refine lv_lshl X.1 X.2.1 (dq_ok h4) rfl ?_
  refine larg_ok hC hS [4] (pc + 19) _ h5 ?_
  refine lv_i2l X.1 X.2.1 (dq_ok h6) rfl ?_
  refine lv_ldc2 (v := 4294967295) X.1 X.2.1 X.2.2.2.1 (X.2.2.2.2.1 _ mw_2001) (dq_ok h7) ?_
  refine lv_land X.1 X.2.1 (dq_ok h8) ?_
  refine lv_lor X.1 X.2.1 (dq_ok h9) ?_
  exact kk
/-- the bytes of a case whose answers are dropped -/
def lq (rt : Nat) (pc pc1 pc2 ic im : Nat) (off : Int) : Bool := dq code pc (.aload_n 1) 1 && dq code pc1 (.invokevirtual ic) 3 && dq code (pc1 + 3) (if rt = 2 then .pop2 else .pop) 1 && dq code (pc1 + 4) (.aload_n 2) 1 && dq code pc2 (.invokevirtual im) 3 && dq code (pc2 + 3) (if rt = 2 then .pop2 else .pop) 1 && dq code (pc2 + 4) (.goto off) 3 && decide (((pc2 + 4 : Nat) : Int) + off = 1889)
/-- the words of a call of the law -/
def LW (Y : XY) (C : String) (i na : Nat) : Prop := Cond.methodLink RL i Y.1 ∈ Wd ∧ Cond.instanceMethod Y.1 ∈ Wd ∧ Cond.selects C Y.1 Y.1 ∈ Wd ∧ Cond.initialized C ∈ Wd ∧ Cond.code Y.1 Y.2.1 Y.2.2.1 Y.2.2.2.1 ∈ Wd ∧ (Y.1.cls = C ∧ Y.1.cls ≠ "java/lang/invoke/MethodHandle" ∧ Y.1.cls ≠ "java/lang/invoke/VarHandle" ∧ (parseMethodDescriptor Y.1.desc).map (fun d => d.parameters.length) = some na) ∧ (Y.2.2.2.2 + 1 ≤ room_1.frames ∧ 8 + (Y.2.2.1 + 11) + 60 * Y.2.2.2.2 ≤ room_1.locals)
theorem pop_ok {rt pc : Nat} {ov : Option Value} (X : CX p s m #[.ref b] meth c RL code 4 ret) (hr : RTy rt ov) (hd : dq code pc (if rt = 2 then .pop2 else .pop) 1 = true) (kk : W p l e room_1 s m #[.ref b] below meth c H locs cells slots Q (F0 m (pc + 1) ls st)) : W p l e room_1 s m #[.ref b] below meth c H locs cells slots Q (F0 m pc ls (ov.toList ++ st)) := by
  unfold RTy at hr
  by_cases h : rt = 2
  · rw [if_pos h] at hr hd
    obtain ⟨v, rfl⟩ := hr
    exact lv_pop2_2 X.1 X.2.1 (dq_ok hd) rfl kk
  · rw [if_neg h] at hr hd
    obtain ⟨v, rfl⟩ := hr
    exact lv_pop X.1 X.2.1 (dq_ok hd) rfl kk
/-- a case whose answers are dropped -/
theorem law_pop {Yc Ym : XY} {ic im na pc pc1 pc2 : Nat} {off : Int} {As : List Value} (rt : Nat) (hC : LCT p l e s m below meth c b L xs D t ls i J cells slots) (hI : LAWI D t s.heap.size (s.heap.size + 304) (fun q => s.heap.size ≤ q) s H locs)
    {Zc : Bool → (Nat → va_E) → Option Value → (Nat → va_E) → Prop} {Zm : (Nat → va_E) → Option Value → (Nat → va_E) → Prop} (hTc : ∀ (b : Bool) (f : Nat → va_E) (oc : Option Value) (f2 : Nat → va_E), Zc b f oc f2 → RTy rt oc) (hTm : ∀ (f : Nat → va_E) (om : Option Value) (f2 : Nat → va_E), Zm f om f2 → RTy rt om)
    (hc : ∀ (b : Bool) (f : Nat → va_E), IC b t s.heap.size f → MetZ l Yc D t s.heap.size 304 f (.ref s.heap.size :: As) (Zc b f)) (hm : ∀ f : Nat → va_E, IM t (s.heap.size + 304) f → MetZ l Ym D t (s.heap.size + 304) 17 f (.ref (s.heap.size + 304) :: As) (Zm f))
    (hz : ∀ (b : Bool) (fc fm fc2 fm2 : Nat → va_E) (oc om : Option Value), REL (s.heap.size + 304) s.heap.size fm fc → Zc b fc oc fc2 → Zm fm om fm2 → (∃ b', IC b' t s.heap.size fc2) ∧ IM t (s.heap.size + 304) fm2 ∧ REL (s.heap.size + 304) s.heap.size fm2 fc2)
    (c1 : LW Yc RX10 ic na) (m1 : LW Ym RX11 im na) (hn : As.length = na) (hd : lq rt pc pc1 pc2 ic im off = true)
    (ld1 : ∀ (H : Heap) (locs : List Loc) (st : List Value), va_S (fun q => s.heap.size ≤ q) s.heap H locs → W p l e room_1 s m #[.ref b] below meth c H locs cells slots (lw_Z below #[.ref b] s) (F0 m pc1 ls (As.reverse ++ st)) → W p l e room_1 s m #[.ref b] below meth c H locs cells slots (lw_Z below #[.ref b] s) (F0 m (pc + 1) ls st))
    (ld2 : ∀ (H : Heap) (locs : List Loc) (st : List Value), va_S (fun q => s.heap.size ≤ q) s.heap H locs → W p l e room_1 s m #[.ref b] below meth c H locs cells slots (lw_Z below #[.ref b] s) (F0 m pc2 ls (As.reverse ++ st)) → W p l e room_1 s m #[.ref b] below meth c H locs cells slots (lw_Z below #[.ref b] s) (F0 m (pc1 + 5) ls st)) : W p l e room_1 s m #[.ref b] below meth c H locs cells slots (lw_Z below #[.ref b] s) (F0 m pc ls []) := by
  simp only [lq, Bool.and_eq_true, decide_eq_true_eq] at hd
  obtain ⟨⟨⟨⟨⟨⟨⟨d0, d1⟩, d2⟩, d3⟩, d4⟩, d5⟩, d6⟩, d7⟩ := hd
  obtain ⟨X, hX, hbl, -, hl, hRc, tail⟩ := hC
  obtain ⟨c1, c2, c3, c4, c5, c6, c7⟩ := c1
  obtain ⟨m1, m2, m3, m4, m5, m6, m7⟩ := m1
  refine lv_aload_n X.1 X.2.1 (dq_ok d0) rfl (lv_at hl 2 rfl) ?_
  obtain ⟨b0, fc0, fm0, hI0⟩ := id hI
  refine ld1 H locs _ hI0.1.2.2.2 ?_
  refine law_pair (Rl := fun _ om => RTy rt om) (Tc := RTy rt) (st2 := fun _ => []) X hl.1 hI rfl hTc hc hm (fun b fc fm fc2 fm2 oc om _ _ hR z1 z2 => ?_) c1 c2 c3 c4 c5 c6 c7 m1 m2 m3 m4 m5 m6 m7 hRc hn (dq_ok d1) (dq_ok d4) (fun _ _ => Nat.zero_le _) ?_ ?_
  · obtain ⟨q1, q2, q3⟩ := hz b fc fm fc2 fm2 oc om hR z1 z2
    exact ⟨q1, q2, q3, hTm fm om fm2 z2⟩
  · intro oc hty H1 locs1 hS1 kk
    refine pop_ok X hty d2 ?_
    rw [show pc1 + 3 + 1 = pc1 + 4 from rfl]
    exact lv_aload_n X.1 X.2.1 (dq_ok d3) rfl (lv_at hl 1 rfl) (ld2 H1 locs1 _ hS1 kk)
  · intro oc om hty H1 locs1 hI1
    refine pop_ok X hty d5 ?_
    exact lv_goto (tgt := 1889) X.1 X.2.1 (dq_ok d6) d7 (tail H1 locs1 hI1)
/-- the bytes of the case whose answers are compared -/
def lqc (pc pc1 pc2 ic im : Nat) (off : Int) : Bool := dq code pc (.aload_n 1) 1 && dq code pc1 (.invokevirtual ic) 3 && dq code (pc1 + 3) (.aload_n 2) 1 && dq code pc2 (.invokevirtual im) 3 && dq code (pc2 + 3) (.if_icmp .eq off) 3 && decide (((pc2 + 3 : Nat) : Int) + off = 1889)
theorem law_cmp {Yc Ym : XY} {ic im na pc pc1 pc2 : Nat} {off : Int} {As : List Value} (hC : LCT p l e s m below meth c b L xs D t ls i J cells slots) (hI : LAWI D t s.heap.size (s.heap.size + 304) (fun q => s.heap.size ≤ q) s H locs)
    {Zc : Bool → (Nat → va_E) → Option Value → (Nat → va_E) → Prop} {Zm : (Nat → va_E) → Option Value → (Nat → va_E) → Prop} (hTc : ∀ (b : Bool) (f : Nat → va_E) (oc : Option Value) (f2 : Nat → va_E), Zc b f oc f2 → RTy 0 oc)
    (hc : ∀ (b : Bool) (f : Nat → va_E), IC b t s.heap.size f → MetZ l Yc D t s.heap.size 304 f (.ref s.heap.size :: As) (Zc b f)) (hm : ∀ f : Nat → va_E, IM t (s.heap.size + 304) f → MetZ l Ym D t (s.heap.size + 304) 17 f (.ref (s.heap.size + 304) :: As) (Zm f))
    (hz : ∀ (b : Bool) (fc fm fc2 fm2 : Nat → va_E) (oc om : Option Value), REL (s.heap.size + 304) s.heap.size fm fc → Zc b fc oc fc2 → Zm fm om fm2 → (∃ b', IC b' t s.heap.size fc2) ∧ IM t (s.heap.size + 304) fm2 ∧ REL (s.heap.size + 304) s.heap.size fm2 fc2 ∧ om = oc)
    (c1 : LW Yc RX10 ic na) (m1 : LW Ym RX11 im na) (hn : As.length = na) (hd : lqc pc pc1 pc2 ic im off = true)
    (ld1 : ∀ (H : Heap) (locs : List Loc) (st : List Value), va_S (fun q => s.heap.size ≤ q) s.heap H locs → W p l e room_1 s m #[.ref b] below meth c H locs cells slots (lw_Z below #[.ref b] s) (F0 m pc1 ls (As.reverse ++ st)) → W p l e room_1 s m #[.ref b] below meth c H locs cells slots (lw_Z below #[.ref b] s) (F0 m (pc + 1) ls st))
    (ld2 : ∀ (H : Heap) (locs : List Loc) (st : List Value), va_S (fun q => s.heap.size ≤ q) s.heap H locs → W p l e room_1 s m #[.ref b] below meth c H locs cells slots (lw_Z below #[.ref b] s) (F0 m pc2 ls (As.reverse ++ st)) → W p l e room_1 s m #[.ref b] below meth c H locs cells slots (lw_Z below #[.ref b] s) (F0 m (pc1 + 4) ls st)) : W p l e room_1 s m #[.ref b] below meth c H locs cells slots (lw_Z below #[.ref b] s) (F0 m pc ls []) := by
  simp only [lqc, Bool.and_eq_true, decide_eq_true_eq] at hd
  obtain ⟨⟨⟨⟨⟨d0, d1⟩, d2⟩, d3⟩, d4⟩, d5⟩ := hd
  obtain ⟨X, hX, hbl, -, hl, hRc, tail⟩ := hC
  obtain ⟨c1, c2, c3, c4, c5, c6, c7⟩ := c1
  obtain ⟨m1, m2, m3, m4, m5, m6, m7⟩ := m1
  refine lv_aload_n X.1 X.2.1 (dq_ok d0) rfl (lv_at hl 2 rfl) ?_
  obtain ⟨b0, fc0, fm0, hI0⟩ := id hI
  refine ld1 H locs _ hI0.1.2.2.2 ?_
  refine law_pair (Rl := fun oc om => RTy 0 oc ∧ om = oc) (Tc := RTy 0) (st2 := fun oc => oc.toList ++ []) X hl.1 hI rfl hTc hc hm (fun b fc fm fc2 fm2 oc om _ _ hR z1 z2 => ?_) c1 c2 c3 c4 c5 c6 c7 m1 m2 m3 m4 m5 m6 m7 hRc hn (dq_ok d1) (dq_ok d3) (fun oc _ => cat_ov oc) ?_ ?_
  · obtain ⟨q1, q2, q3, q4⟩ := hz b fc fm fc2 fm2 oc om hR z1 z2
    exact ⟨q1, q2, q3, hTc b fc oc fc2 z1, q4⟩
  · intro oc hty H1 locs1 hS1 kk
    exact lv_aload_n X.1 X.2.1 (dq_ok d2) rfl (lv_at hl 1 rfl) (ld2 H1 locs1 _ hS1 kk)
  · intro oc om hty H1 locs1 hI1
    obtain ⟨⟨v, rfl⟩, rfl⟩ := hty
    exact lv_icmp_eq X.1 X.2.1 (dq_ok d4) d5 (fun _ => tail H1 locs1 hI1) (fun h => absurd rfl h)
/-- rewriting the length of the class's pool -/
theorem to304 {lo : Nat} {Yc : XY} {b : Bool} {f : Nat → va_E} {vs : List Value} {Z : Option Value → (Nat → va_E) → Prop} (h : MetZ l Yc D t lo (Ec b).2.1.length f vs Z) : MetZ l Yc D t lo 304 f vs Z := by
  rw [Ec_len] at h
  exact h
/-- most cases -/
theorem law_gen {Yc Ym : XY} {ic im na pc pc1 pc2 : Nat} {off : Int} {As : List Value} (rt : Nat) (hC : LCT p l e s m below meth c b L xs D t ls i J cells slots) (hI : LAWI D t s.heap.size (s.heap.size + 304) (fun q => s.heap.size ≤ q) s H locs)
    (hc : ∀ (b : Bool) (f : Nat → va_E), IC b t s.heap.size f → MetZ l Yc D t s.heap.size (Ec b).2.1.length f (.ref s.heap.size :: As) (CZ rt b t s.heap.size f)) (hm : ∀ f : Nat → va_E, IM t (s.heap.size + 304) f → MetZ l Ym D t (s.heap.size + 304) 17 f (.ref (s.heap.size + 304) :: As) (PZ rt t (s.heap.size + 304) f))
    (c1 : LW Yc RX10 ic na) (m1 : LW Ym RX11 im na) (hn : As.length = na) (hd : lq rt pc pc1 pc2 ic im off = true)
    (ld1 : ∀ (H : Heap) (locs : List Loc) (st : List Value), va_S (fun q => s.heap.size ≤ q) s.heap H locs → W p l e room_1 s m #[.ref b] below meth c H locs cells slots (lw_Z below #[.ref b] s) (F0 m pc1 ls (As.reverse ++ st)) → W p l e room_1 s m #[.ref b] below meth c H locs cells slots (lw_Z below #[.ref b] s) (F0 m (pc + 1) ls st))
    (ld2 : ∀ (H : Heap) (locs : List Loc) (st : List Value), va_S (fun q => s.heap.size ≤ q) s.heap H locs → W p l e room_1 s m #[.ref b] below meth c H locs cells slots (lw_Z below #[.ref b] s) (F0 m pc2 ls (As.reverse ++ st)) → W p l e room_1 s m #[.ref b] below meth c H locs cells slots (lw_Z below #[.ref b] s) (F0 m (pc1 + 5) ls st)) : W p l e room_1 s m #[.ref b] below meth c H locs cells slots (lw_Z below #[.ref b] s) (F0 m pc ls []) :=
  law_pop rt hC hI (Zc := fun b f => CZ rt b t s.heap.size f) (Zm := fun f => PZ rt t (s.heap.size + 304) f) (fun _ _ _ _ z => z.1) (fun _ _ _ z => z.1) (fun b f h => to304 (hc b f h)) hm (fun b fc fm fc2 fm2 oc om hR z1 z2 => ⟨⟨b, z1.2.1⟩, z2.2.1, REL_keep hR z2.2.2 z1.2.2⟩) c1 m1 hn hd ld1 ld2
end
