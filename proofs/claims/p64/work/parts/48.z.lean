/-! methods by hand with any end Z (of answer and pool): start, returns, calls -/
def QcZ (D : va_G) (lo n : Nat) (Z : Option Value → (Nat → va_E) → Prop) : Array Value → State → Outcome → State → Prop := fun _ st oc tt => ∃ (ov : Option Value) (f2 : Nat → va_E), oc = .returned ov ∧ Z ov f2 ∧ va_P D vwCl (px_W lo n f2) tt.heap ∧ va_F (px_A lo n) st tt
abbrev MetZ (l : Launch) (Y : XY) (D : va_G) (t : Nat → ClassId) (lo n : Nat) (f : Nat → va_E) (vs : List Value) (Z : Option Value → (Nat → va_E) → Prop) : Prop := Met l Y.1 (px_ws Y.1 Y.2.1 Y.2.2.1 Y.2.2.2.1) (px_rm Y.2.2.2.2) (PcM D t lo n f vs) (QcZ D lo n Z) 0 0 (px_A lo n)
theorem MetZ.beg {l : Launch} {Y : XY} {D : va_G} {t : Nat → ClassId} {lo n : Nat} {f : Nat → va_E} {vs : List Value} {Z : Option Value → (Nat → va_E) → Prop} (hy : plainName Y.1.cls = true) (hn : (lg_sl vs).length ≤ Y.2.2.1)
    (body : ∀ (p : Program) (e : Env) (s : State) (m : MethodId) (below : List Frame) (meth : Method) (c : Code), CX p s m vs.toArray meth c Y.1.cls Y.2.1 Y.2.2.1 Y.2.2.2.1 → HX D t lo n f (px_A lo n) s s.heap [] → ∀ ls : Array Slot, lv_has ls Y.2.2.1 (lv_args 0 vs) →
      W p l e (px_rm Y.2.2.2.2) s m vs.toArray below meth c s.heap [] 0 0 (MQ below (QcZ D lo n Z) vs.toArray s 0 0 (px_A lo n)) (F0 m 0 ls [])) : MetZ l Y D t lo n f vs Z := by
  refine Met.ofW (cc := Y.2.1) (maxL := Y.2.2.1) (ret := Y.2.2.2.1) hy rfl ?_
  intro p e s m args below meth c s₁ B hml hv
  obtain ⟨rfl, hK, hP, hSX⟩ := hv
  have hts := atoms_spec (ws := px_ws Y.1 Y.2.1 Y.2.2.1 Y.2.2.2.1) B.pre
  have hl := lv_entry vs (n := Y.2.2.1) hn
  rw [lg_entry_eq]
  exact body p e s m below meth c ⟨B.exec, B.bytes, hml, findClass_of_methodNamed B.named, fun w h => hts w (List.mem_cons_of_mem _ h), B.notSynchronized, B.returns⟩ ⟨hK, hP, ⟨fun q h1 h2 => ⟨h1, h2⟩, hSX⟩, va_S.rf⟩ _ hl
theorem MetZ.mono {l : Launch} {Y : XY} {D : va_G} {t : Nat → ClassId} {lo n : Nat} {f : Nat → va_E} {vs : List Value} {Z Z' : Option Value → (Nat → va_E) → Prop} (h : MetZ l Y D t lo n f vs Z) (hz : ∀ ov f2, Z ov f2 → Z' ov f2) : MetZ l Y D t lo n f vs Z' :=
  MetFree.mono h (fun _ _ h => h) (fun _ _ _ _ _ h => h) (fun a st oc tt _ h => ⟨by obtain ⟨ov, f2, a1, a2, a3⟩ := h.1; exact ⟨ov, f2, a1, hz _ _ a2, a3⟩, h.2⟩)
theorem MetZ.ofX {l : Launch} {E : XE} {xt : XX} {D : va_G} {t : Nat → ClassId} {lo : Nat} {Y : XY} {M : XM} (h : HOLDS l E xt D t lo Y M) {vs : List Value} {G0 : List Int} {f : Nat → va_E} (hE : ENT E xt lo M vs G0 f) (hT : TYP E xt t lo f) (hX : xt.2 lo f) : MetZ l Y D t lo E.2.1.length f vs (fun ov f2 => ∃ o, o ∈ M.2.2.1 ∧ OOK E xt lo G0 o ov f2 ∧ TYP E xt t lo f2 ∧ FZ E xt lo f f2) :=
  MetFree.mono (h vs G0 f hE hT hX) (fun _ _ h => h) (fun _ _ _ _ _ h => h) (fun a st oc tt _ h => ⟨QcX_back _ _ _ h.1, h.2⟩)
theorem HOLDS.ofZ {l : Launch} {E : XE} {xt : XX} {D : va_G} {t : Nat → ClassId} {lo : Nat} {Y : XY} {M : XM} (h : ∀ (vs : List Value) (G0 : List Int) (f : Nat → va_E), ENT E xt lo M vs G0 f → TYP E xt t lo f → xt.2 lo f → MetZ l Y D t lo E.2.1.length f vs (fun ov f2 => ∃ o, o ∈ M.2.2.1 ∧ OOK E xt lo G0 o ov f2 ∧ TYP E xt t lo f2 ∧ FZ E xt lo f f2)) : HOLDS l E xt D t lo Y M := by
  intro vs G0 f hE hT hX
  exact MetFree.mono (h vs G0 f hE hT hX) (fun _ _ h => h) (fun _ _ _ _ _ h => h) (fun a st oc tt _ h => ⟨by obtain ⟨ov, f2, a1, ⟨o, b1, b2, b3, b4⟩, a3, a4⟩ := h.1; exact ⟨ov, f2, o, a1, b1, b2, b3, b4, a3, a4⟩, h.2⟩)
theorem MetZ.ofM {l : Launch} {Y : XY} {D : va_G} {t : Nat → ClassId} {lo n : Nat} {f f' : Nat → va_E} {vs : List Value} {ov : Option Value} (h : MetM l Y.1 Y.2.1 Y.2.2.1 Y.2.2.2.1 Y.2.2.2.2 D t lo n f vs f' ov) : MetZ l Y D t lo n f vs (fun o2 f2 => o2 = ov ∧ f2 = f') :=
  MetFree.mono h (fun _ _ h => h) (fun _ _ _ _ _ h => h) (fun a st oc tt _ h => ⟨⟨ov, f', h.1.1, ⟨rfl, rfl⟩, h.1.2.1, h.1.2.2⟩, h.2⟩)
section
variable {p : Program} {l : Launch} {e : Env} {R : Room} {s : State} {m : MethodId} {args : Array Value} {below : List Frame} {meth : Method} {c : Code} {H : Heap} {locs : List Loc} {cells slots : Nat} {Q : State → Prop}
variable {cc : ByteArray} {own : String} {nl : Nat} {ret : Option FieldType} {pc : Nat} {ls : Array Slot} {rest : List Value} {D : va_G} {t : Nat → ClassId} {lo n : Nat} {f f0 : Nat → va_E} {Z : Option Value → (Nat → va_E) → Prop} {A : Nat → Prop}
theorem z_vret (X : CX p s m args meth c own cc nl none) (h : HX D t lo n f (px_A lo n) s H locs) (hZ : Z none f) (hdg : decode cc pc = .ok (.return_, 1)) : W p l e R s m args below meth c H locs cells slots (MQ below (QcZ D lo n Z) args s cells slots (px_A lo n)) (F0 m pc ls []) :=
  W.vret X.1 X.2.1 X.2.2.2.2.2.2 (fun tt ht hW => ⟨none, f, rfl, hZ, by rw [ht]; exact h.2.1, h.2.2.2.F ht⟩) h.2.2.2.2.2 hdg X.2.2.2.2.2.1
theorem z_iret (X : CX p s m args meth c own cc nl (some .int)) (h : HX D t lo n f (px_A lo n) s H locs) {v : Int32} (hZ : Z (some (.int v)) f) (hdg : decode cc pc = .ok (.ireturn, 1)) : W p l e R s m args below meth c H locs cells slots (MQ below (QcZ D lo n Z) args s cells slots (px_A lo n)) (F0 m pc ls [.int v]) :=
  W.iret X.1 X.2.1 X.2.2.2.2.2.2 (fun tt ht hW => ⟨some (.int v), f, rfl, hZ, by rw [ht]; exact h.2.1, h.2.2.2.F ht⟩) h.2.2.2.2.2 hdg X.2.2.2.2.2.1
theorem z_lret (X : CX p s m args meth c own cc nl (some .long)) (h : HX D t lo n f (px_A lo n) s H locs) {v : Int64} (hZ : Z (some (.long v)) f) (hdg : decode cc pc = .ok (.lreturn, 1)) : W p l e R s m args below meth c H locs cells slots (MQ below (QcZ D lo n Z) args s cells slots (px_A lo n)) (F0 m pc ls [.long v]) :=
  W.lret X.1 X.2.1 X.2.2.2.2.2.2 (fun tt ht hW => ⟨some (.long v), f, rfl, hZ, by rw [ht]; exact h.2.1, h.2.2.2.F ht⟩) h.2.2.2.2.2 hdg X.2.2.2.2.2.1
theorem z_callV (X : CX p s m args meth c own cc nl ret) (h : HX D t lo n f A s H locs) {Y : XY} {idx ci na : Nat} {b : Nat} {As : List Value} {C : String} {T : u_T} {N : Nat} {fs : List Value} {st0 : List Value}
    (hM : MetZ l Y D t lo n f (.ref b :: As) Z) (hb : px_at lo n f b (.inr (ci, fs))) (hc : vwCl[ci]? = some (C, T, N))
    (h1 : Cond.methodLink own idx Y.1 ∈ Wd) (h2 : Cond.instanceMethod Y.1 ∈ Wd) (h3 : Cond.selects C Y.1 Y.1 ∈ Wd) (h4 : Cond.initialized C ∈ Wd) (h5 : Cond.code Y.1 Y.2.1 Y.2.2.1 Y.2.2.2.1 ∈ Wd)
    (hd : Y.1.cls = C ∧ Y.1.cls ≠ "java/lang/invoke/MethodHandle" ∧ Y.1.cls ≠ "java/lang/invoke/VarHandle" ∧ (parseMethodDescriptor Y.1.desc).map (fun d => d.parameters.length) = some na) (hR : Y.2.2.2.2 + 1 ≤ R.frames ∧ 8 + (Y.2.2.1 + 11) + 60 * Y.2.2.2.2 ≤ R.locals) (hRc : cells ≤ R.cells ∧ slots ≤ R.slots)
    (hls : ls.size = nl) (hn : As.length = na) (hst : st0 = As.reverse ++ .ref b :: rest) (hrm : (rest.map fun v => v.category).sum ≤ 8) (hdg : decode cc pc = .ok (.invokevirtual idx, 3))
    (kk : ∀ (ov : Option Value) (f2 : Nat → va_E), Z ov f2 → ∀ (H1 : Heap) (locs1 : List Loc), HX D t lo n f2 A s H1 locs1 → W p l e R s m args below meth c H1 locs1 cells slots Q (F0 m (pc + 3) ls (ov.toList ++ rest))) : W p l e R s m args below meth c H locs cells slots Q (F0 m pc ls st0) := by
  have hG : GoodIn Wd (wsV own idx C Y.1 (px_ws Y.1 Y.2.1 Y.2.2.1 Y.2.2.2.1)) := by
    intro w hw
    unfold wsV at hw
    rcases List.mem_append.mp hw with q | q
    · simp only [List.mem_cons, List.not_mem_nil, or_false] at q
      rcases q with rfl | rfl | rfl | rfl
      · exact Wd_good _ h1
      · exact Wd_good _ h2
      · exact Wd_good _ h3
      · exact Wd_good _ h4
    · exact wd_all h5 w q
  refine x_back h (rest := rest) (Z := Z) (va_runV (As := As) (rest := rest) ⟨X.1, X.2.1, X.2.2.1, X.2.2.2.1, X.2.2.2.2.1⟩ hM (cwV na X.2.2.2.2.1 hG rfl rfl rfl hd hR) ⟨PcM.blind, va_recv h.1 h.2.1 hc (q0 := b - lo) (by rw [px_get hb.1, hb.2]), fun U hU hW => ⟨rfl, va_K.moved hW.alike h.1, by rw [hU]; exact h.2.1, SX.into h.2.2.1.2 h.2.2.2 hU hW (fun q z => h.2.2.1.1 q z.1 z.2)⟩⟩ rfl hn hls hst (lv_room hrm) hdg hRc) (fun st oc tt q => q) kk
theorem z_callS (X : CX p s m args meth c own cc nl ret) (h : HX D t lo n f A s H locs) {Y : XY} {idx na : Nat} {As : List Value} {st0 : List Value}
    (hM : MetZ l Y D t lo n f As Z)
    (h1 : Cond.methodLink own idx Y.1 ∈ Wd) (h2 : Cond.static Y.1 ∈ Wd) (h4 : Cond.initialized Y.1.cls ∈ Wd) (h5 : Cond.code Y.1 Y.2.1 Y.2.2.1 Y.2.2.2.1 ∈ Wd)
    (hd : Y.1.cls ≠ "java/lang/invoke/MethodHandle" ∧ Y.1.cls ≠ "java/lang/invoke/VarHandle" ∧ (parseMethodDescriptor Y.1.desc).map (fun d => d.parameters.length) = some na) (hR : Y.2.2.2.2 + 1 ≤ R.frames ∧ 8 + (Y.2.2.1 + 11) + 60 * Y.2.2.2.2 ≤ R.locals) (hRc : cells ≤ R.cells ∧ slots ≤ R.slots)
    (hls : ls.size = nl) (hn : As.length = na) (hst : st0 = As.reverse ++ rest) (hrm : (rest.map fun v => v.category).sum ≤ 8) (hdg : decode cc pc = .ok (.invokestatic idx, 3))
    (kk : ∀ (ov : Option Value) (f2 : Nat → va_E), Z ov f2 → ∀ (H1 : Heap) (locs1 : List Loc), HX D t lo n f2 A s H1 locs1 → W p l e R s m args below meth c H1 locs1 cells slots Q (F0 m (pc + 3) ls (ov.toList ++ rest))) : W p l e R s m args below meth c H locs cells slots Q (F0 m pc ls st0) := by
  have hG : GoodIn Wd (va_wsS own idx Y.1 (px_ws Y.1 Y.2.1 Y.2.2.1 Y.2.2.2.1)) := by
    intro w hw
    unfold va_wsS at hw
    rcases List.mem_append.mp hw with q | q
    · simp only [List.mem_cons, List.not_mem_nil, or_false] at q
      rcases q with rfl | rfl | rfl
      · exact Wd_good _ h1
      · exact Wd_good _ h2
      · exact Wd_good _ h4
    · exact wd_all h5 w q
  refine x_back h (rest := rest) (Z := Z) (va_runS (As := As) (rest := rest) ⟨X.1, X.2.1, X.2.2.1, X.2.2.2.1, X.2.2.2.2.1⟩ hM (va_cwS na X.2.2.2.2.1 hG rfl rfl rfl hd hR) ⟨PcM.blind, fun U hU hW => ⟨rfl, va_K.moved hW.alike h.1, by rw [hU]; exact h.2.1, SX.into h.2.2.1.2 h.2.2.2 hU hW (fun q z => h.2.2.1.1 q z.1 z.2)⟩⟩ rfl hn hls hst (lv_room hrm) hdg hRc) (fun st oc tt q => q) kk
end
