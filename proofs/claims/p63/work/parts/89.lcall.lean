/-! a call of the law: one pool is written, the other stays -/
section
variable {p : Program} {l : Launch} {e : Env} {R : Room} {s : State} {m : MethodId} {args : Array Value} {below : List Frame} {meth : Method} {c : Code} {H : Heap} {locs : List Loc} {cells slots : Nat} {Q : State → Prop}
variable {cc : ByteArray} {own : String} {nl : Nat} {ret : Option FieldType} {pc : Nat} {ls : Array Slot} {rest : List Value} {D : va_G} {t : Nat → ClassId} {lo n : Nat} {f : Nat → va_E} {Z : Option Value → (Nat → va_E) → Prop} {A : Nat → Prop}
theorem x_back2 {st0 : List Value} (h : HX D t lo n f A s H locs) {Qa : State → Outcome → State → Prop} {Z : Option Value → (Nat → va_E) → Prop}
    (hr : va_Run p l e R s m args below meth c H locs cells slots 0 0 (F0 m pc ls st0) rest Qa (px_A lo n))
    (hq : ∀ (st : State) (oc : Outcome) (tt : State), Qa st oc tt → ∃ (ov : Option Value) (f2 : Nat → va_E), oc = .returned ov ∧ Z ov f2 ∧ va_P D vwCl (px_W lo n f2) tt.heap ∧ va_F (px_A lo n) st tt)
    (kk : ∀ (ov : Option Value) (f2 : Nat → va_E), Z ov f2 → ∀ (H1 : Heap) (locs1 : List Loc), HX D t lo n f2 A s H1 locs1 → (∀ q : Nat, q < H.size → ¬ px_A lo n q → H1[q]? = H[q]?) → W p l e R s m args below meth c H1 locs1 cells slots Q (F0 m (pc + 3) ls (ov.toList ++ rest))) : W p l e R s m args below meth c H locs cells slots Q (F0 m pc ls st0) := by
  intro T hT X0
  obtain ⟨v, st₀, tt, T', L, h0, X', hL, e1, e2, hQ, stp⟩ := hr T hT X0
  obtain ⟨ov, f2, hv, hz2, hP2, hF⟩ := hq _ _ _ hQ
  cases hv
  obtain ⟨hz, hk⟩ := hF
  rw [h0] at hz hk
  obtain ⟨t2, a1, b1⟩ := kk _ f2 hz2 T'.heap (locs ++ L) ⟨h.1, by rw [e1]; exact hP2, h.2.2.1,
      ⟨Nat.le_trans h.2.2.2.1 (by rw [e1]; exact hz), fun q h1 h2 => by rw [e1, hk q (Nat.lt_of_lt_of_le h1 h.2.2.2.1) (fun z => h2 (h.2.2.1.1 q z.1 z.2))]; exact h.2.2.2.2.1 q h1 h2, fun q hq => by
        rcases List.mem_append.mp hq with h1 | h1
        · exact h.2.2.2.2.2 q h1
        · exact h.2.2.1.1 _ (hL q h1).1 (hL q h1).2⟩⟩ (fun q h1 h2 => by rw [e1]; exact hk q h1 h2) T' rfl X'
  exact ⟨t2, stp t2 a1, b1⟩
/-- the other pool -/
theorem HX_other {lo2 n2 : Nat} {f2 g : Nat → va_E} {H1 : Heap} {locs1 : List Loc} (h1 : HX D t lo n f2 A s H1 locs1) (h2 : HX D t lo2 n2 g A s H locs) (hk : ∀ q : Nat, q < H.size → ¬ px_A lo n q → H1[q]? = H[q]?) (hd : lo + n ≤ lo2 ∨ lo2 + n2 ≤ lo) : HX D t lo2 n2 g A s H1 locs1 := by
  refine ⟨h1.1, px_Pof (fun a ha1 ha2 => ?_), h2.2.2.1, h1.2.2.2⟩
  have hat := px_Pat h2.2.1 ⟨ha1, ha2⟩
  exact hat.kept (hk a hat.lt (fun z => by have z1 := z.1; have z2 := z.2; omega))
theorem z_callV2 (X : CX p s m args meth c own cc nl ret) (h : HX D t lo n f A s H locs) {Y : XY} {idx ci na : Nat} {b : Nat} {As : List Value} {C : String} {T : u_T} {N : Nat} {fs : List Value} {st0 : List Value}
    (hM : MetZ l Y D t lo n f (.ref b :: As) Z) (hb : px_at lo n f b (.inr (ci, fs))) (hc : vwCl[ci]? = some (C, T, N))
    (h1 : Cond.methodLink own idx Y.1 ∈ Wd) (h2 : Cond.instanceMethod Y.1 ∈ Wd) (h3 : Cond.selects C Y.1 Y.1 ∈ Wd) (h4 : Cond.initialized C ∈ Wd) (h5 : Cond.code Y.1 Y.2.1 Y.2.2.1 Y.2.2.2.1 ∈ Wd)
    (hd : Y.1.cls = C ∧ Y.1.cls ≠ "java/lang/invoke/MethodHandle" ∧ Y.1.cls ≠ "java/lang/invoke/VarHandle" ∧ (parseMethodDescriptor Y.1.desc).map (fun d => d.parameters.length) = some na) (hR : Y.2.2.2.2 + 1 ≤ R.frames ∧ 8 + (Y.2.2.1 + 11) + 60 * Y.2.2.2.2 ≤ R.locals) (hRc : cells ≤ R.cells ∧ slots ≤ R.slots)
    (hls : ls.size = nl) (hn : As.length = na) (hst : st0 = As.reverse ++ .ref b :: rest) (hrm : (rest.map fun v => v.category).sum ≤ 8) (hdg : decode cc pc = .ok (.invokevirtual idx, 3))
    (kk : ∀ (ov : Option Value) (f2 : Nat → va_E), Z ov f2 → ∀ (H1 : Heap) (locs1 : List Loc), HX D t lo n f2 A s H1 locs1 → (∀ q : Nat, q < H.size → ¬ px_A lo n q → H1[q]? = H[q]?) → W p l e R s m args below meth c H1 locs1 cells slots Q (F0 m (pc + 3) ls (ov.toList ++ rest))) : W p l e R s m args below meth c H locs cells slots Q (F0 m pc ls st0) := by
  have hG : GoodIn Wd (wsV own idx C Y.1 (px_ws Y.1 Y.2.1 Y.2.2.1 Y.2.2.2.1)) := by
    intro w hw
    unfold wsV at hw
    rcases List.mem_append.mp hw with q | q
    · simp only [List.mem_cons, List.not_mem_nil, or_false] at q
      rcases q with rfl | rfl | rfl | rfl
      · exact Wd_good _ h1
      · exact Wd_good _ h2
      · exact Wd_good _ h3
      · exact Wd_good _ h4
    · exact wd_all h5 w q
  refine x_back2 h (rest := rest) (Z := Z) (va_runV (As := As) (rest := rest) ⟨X.1, X.2.1, X.2.2.1, X.2.2.2.1, X.2.2.2.2.1⟩ hM (cwV na X.2.2.2.2.1 hG rfl rfl rfl hd hR) ⟨PcM.blind, va_recv h.1 h.2.1 hc (q0 := b - lo) (by rw [px_get hb.1, hb.2]), fun U hU hW => ⟨rfl, va_K.moved hW.alike h.1, by rw [hU]; exact h.2.1, SX.into h.2.2.1.2 h.2.2.2 hU hW (fun q z => h.2.2.1.1 q z.1 z.2)⟩⟩ rfl hn hls hst (lv_room hrm) hdg hRc) (fun st oc tt q => q) kk
end
/-- what holds at the law's loop: both pools, and what they have in common -/
def LAWI (D : va_G) (t : Nat → ClassId) (lc lm : Nat) (A : Nat → Prop) (s : State) (H : Heap) (locs : List Loc) : Prop := ∃ (b : Bool) (fc fm : Nat → va_E), HX D t lc 304 fc A s H locs ∧ HX D t lm 17 fm A s H locs ∧ IC b t lc fc ∧ IM t lm fm ∧ REL lm lc fm fc
section
variable {p : Program} {l : Launch} {e : Env} {R : Room} {s : State} {m : MethodId} {args : Array Value} {below : List Frame} {meth : Method} {c : Code} {H : Heap} {locs : List Loc} {cells slots : Nat} {Q : State → Prop}
variable {cc : ByteArray} {own : String} {nl : Nat} {ret : Option FieldType} {pc1 pc2 : Nat} {ls : Array Slot} {D : va_G} {t : Nat → ClassId} {lc lm : Nat} {A : Nat → Prop}
theorem IC_obj {b : Bool} {f : Nat → va_E} (h : IC b t lc f) : ∃ fs, f lc = .inr (10, fs) := by
  obtain ⟨fs, e1, -, -⟩ := typ_at h.1 (i := 0) (k := 0) (kdc0 b) (rfl : (Ec b).1[0]? = some _)
  exact ⟨fs, e1⟩
theorem cat_ov (ov : Option Value) : ((ov.toList ++ []).map (fun v : Value => v.category)).sum ≤ 8 := by
  cases ov with
  | none => simp
  | some v => rcases lv_cat v with q | q <;> simp [q]
/-- a call of the class, then a call of the reference: any two ends Zc, Zm that lead back to the loop's state -/
theorem law_pair {Yc Ym : XY} {ic im na : Nat} {As : List Value} (X : CX p s m args meth c own cc nl ret) (hls : ls.size = nl) (hI : LAWI D t lc lm A s H locs) (hd : lm = lc + 304)
    {Zc : Bool → (Nat → va_E) → Option Value → (Nat → va_E) → Prop} {Zm : (Nat → va_E) → Option Value → (Nat → va_E) → Prop} {Rl : Option Value → Option Value → Prop} {Tc : Option Value → Prop} (hTc : ∀ (b : Bool) (f : Nat → va_E) (oc : Option Value) (f2 : Nat → va_E), Zc b f oc f2 → Tc oc)
    (hc : ∀ (b : Bool) (f : Nat → va_E), IC b t lc f → MetZ l Yc D t lc 304 f (.ref lc :: As) (Zc b f)) (hm : ∀ f : Nat → va_E, IM t lm f → MetZ l Ym D t lm 17 f (.ref lm :: As) (Zm f))
    (hz : ∀ (b : Bool) (fc fm fc2 fm2 : Nat → va_E) (oc om : Option Value), IC b t lc fc → IM t lm fm → REL lm lc fm fc → Zc b fc oc fc2 → Zm fm om fm2 → (∃ b', IC b' t lc fc2) ∧ IM t lm fm2 ∧ REL lm lc fm2 fc2 ∧ Rl oc om)
    (c1 : Cond.methodLink own ic Yc.1 ∈ Wd) (c2 : Cond.instanceMethod Yc.1 ∈ Wd) (c3 : Cond.selects RX10 Yc.1 Yc.1 ∈ Wd) (c4 : Cond.initialized RX10 ∈ Wd) (c5 : Cond.code Yc.1 Yc.2.1 Yc.2.2.1 Yc.2.2.2.1 ∈ Wd)
    (c6 : Yc.1.cls = RX10 ∧ Yc.1.cls ≠ "java/lang/invoke/MethodHandle" ∧ Yc.1.cls ≠ "java/lang/invoke/VarHandle" ∧ (parseMethodDescriptor Yc.1.desc).map (fun d => d.parameters.length) = some na) (c7 : Yc.2.2.2.2 + 1 ≤ R.frames ∧ 8 + (Yc.2.2.1 + 11) + 60 * Yc.2.2.2.2 ≤ R.locals)
    (m1 : Cond.methodLink own im Ym.1 ∈ Wd) (m2 : Cond.instanceMethod Ym.1 ∈ Wd) (m3 : Cond.selects RX11 Ym.1 Ym.1 ∈ Wd) (m4 : Cond.initialized RX11 ∈ Wd) (m5 : Cond.code Ym.1 Ym.2.1 Ym.2.2.1 Ym.2.2.2.1 ∈ Wd)
    (m6 : Ym.1.cls = RX11 ∧ Ym.1.cls ≠ "java/lang/invoke/MethodHandle" ∧ Ym.1.cls ≠ "java/lang/invoke/VarHandle" ∧ (parseMethodDescriptor Ym.1.desc).map (fun d => d.parameters.length) = some na) (m7 : Ym.2.2.2.2 + 1 ≤ R.frames ∧ 8 + (Ym.2.2.1 + 11) + 60 * Ym.2.2.2.2 ≤ R.locals)
    (hRc : cells ≤ R.cells ∧ slots ≤ R.slots) (hn : As.length = na) (d1 : decode cc pc1 = .ok (.invokevirtual ic, 3)) (d2 : decode cc pc2 = .ok (.invokevirtual im, 3)) (st2 : Option Value → List Value) (hst2 : ∀ oc, Tc oc → ((st2 oc).map (fun v : Value => v.category)).sum ≤ 8)
    (mid : ∀ (oc : Option Value), Tc oc → ∀ (H1 : Heap) (locs1 : List Loc), va_S A s.heap H1 locs1 → W p l e R s m args below meth c H1 locs1 cells slots Q (F0 m pc2 ls (As.reverse ++ .ref lm :: st2 oc)) → W p l e R s m args below meth c H1 locs1 cells slots Q (F0 m (pc1 + 3) ls (oc.toList ++ [])))
    (kk : ∀ (oc om : Option Value), Rl oc om → ∀ (H1 : Heap) (locs1 : List Loc), LAWI D t lc lm A s H1 locs1 → W p l e R s m args below meth c H1 locs1 cells slots Q (F0 m (pc2 + 3) ls (om.toList ++ st2 oc))) : W p l e R s m args below meth c H locs cells slots Q (F0 m pc1 ls (As.reverse ++ [.ref lc])) := by
  obtain ⟨b, fc, fm, hC, hM, iC, iM, hR⟩ := hI
  obtain ⟨fs, e1⟩ := IC_obj iC
  refine z_callV2 (b := lc) (As := As) (rest := []) (ci := 10) (fs := fs) X hC (hc b fc iC) ⟨⟨by omega, by omega⟩, e1⟩ (rfl : vwCl[10]? = some _) c1 c2 c3 c4 c5 c6 c7 hRc hls hn rfl (Nat.zero_le _) d1 ?_
  intro oc fc2 hzc H1 locs1 hC1 hk1
  have hM1 := HX_other hC1 hM hk1 (Or.inl (by omega))
  have hty := hTc b fc oc fc2 hzc
  refine mid oc hty H1 locs1 hC1.2.2.2 ?_
  obtain ⟨fs2, r0, -, -⟩ := typ_refs iM.1
  refine z_callV2 (b := lm) (As := As) (rest := st2 oc) (ci := 11) (fs := fs2) X hM1 (hm fm iM) ⟨⟨by omega, by omega⟩, r0⟩ (rfl : vwCl[11]? = some _) m1 m2 m3 m4 m5 m6 m7 hRc hls hn rfl (hst2 oc hty) d2 ?_
  intro om fm2 hzm H2 locs2 hM2 hk2
  have hC2 := HX_other hM2 hC1 hk2 (Or.inr (by omega))
  obtain ⟨⟨b', q1⟩, q2, q3, q4⟩ := hz b fc fm fc2 fm2 oc om iC iM hR hzc hzm
  exact kk oc om q4 H2 locs2 ⟨b', fc2, fm2, hC2, hM2, q1, q2, q3⟩
end
