/-! a contract by hand with any end: start and return; next -/
theorem HOLDS.start {l : Launch} {E : XE} {xt : XX} {D : va_G} {t : Nat → ClassId} {lo : Nat} {Y : XY} {M : XM} (hy : plainName Y.1.cls = true)
    (body : ∀ (vs : List Value) (G0 : List Int) (f : Nat → va_E), ENT E xt lo M vs G0 f → TYP E xt t lo f → xt.2 lo f → (lg_sl vs).length ≤ Y.2.2.1 ∧ ∀ (p : Program) (e : Env) (s : State) (m : MethodId) (below : List Frame) (meth : Method) (c : Code), CX p s m vs.toArray meth c Y.1.cls Y.2.1 Y.2.2.1 Y.2.2.2.1 → HX D t lo E.2.1.length f (px_A lo E.2.1.length) s s.heap [] → ∀ ls : Array Slot, lv_has ls Y.2.2.1 (lv_args 0 vs) →
      W p l e (px_rm Y.2.2.2.2) s m vs.toArray below meth c s.heap [] 0 0 (MQ below (QcX E xt D t lo M G0 f) vs.toArray s 0 0 (px_A lo E.2.1.length)) (F0 m 0 ls [])) : HOLDS l E xt D t lo Y M := by
  intro vs G0 f hE hT hX
  obtain ⟨hn, body⟩ := body vs G0 f hE hT hX
  refine Met.ofW (cc := Y.2.1) (maxL := Y.2.2.1) (ret := Y.2.2.2.1) hy rfl ?_
  intro p e s m args below meth c s₁ B hml hv
  obtain ⟨rfl, hK, hP, hSX⟩ := hv
  have hts := atoms_spec (ws := px_ws Y.1 Y.2.1 Y.2.2.1 Y.2.2.2.1) B.pre
  have hl := lv_entry vs (n := Y.2.2.1) hn
  rw [lg_entry_eq]
  exact body p e s m below meth c ⟨B.exec, B.bytes, hml, findClass_of_methodNamed B.named, fun w h => hts w (List.mem_cons_of_mem _ h), B.notSynchronized, B.returns⟩ ⟨hK, hP, ⟨fun q h1 h2 => ⟨h1, h2⟩, hSX⟩, va_S.rf⟩ _ hl
section
variable {p : Program} {l : Launch} {e : Env} {R : Room} {s : State} {m : MethodId} {args : Array Value} {below : List Frame} {meth : Method} {c : Code} {H : Heap} {locs : List Loc} {cells slots : Nat} {Q : State → Prop}
variable {cc : ByteArray} {own : String} {nl : Nat} {ret : Option FieldType} {pc : Nat} {ls : Array Slot} {rest : List Value} {D : va_G} {t : Nat → ClassId} {lo n : Nat} {f f0 : Nat → va_E}
theorem hx_vret {E : XE} {xt : XX} {M : XM} {G0 : List Int} (X : CX p s m args meth c own cc nl none) (h : HX D t lo E.2.1.length f (px_A lo E.2.1.length) s H locs) {o : XO} (ho : o ∈ M.2.2.1) (hO : OOK E xt lo G0 o none f) (hT : TYP E xt t lo f) (hF : FZ E xt lo f0 f) (hdg : decode cc pc = .ok (.return_, 1)) : W p l e R s m args below meth c H locs cells slots (MQ below (QcX E xt D t lo M G0 f0) args s cells slots (px_A lo E.2.1.length)) (F0 m pc ls []) :=
  W.vret X.1 X.2.1 X.2.2.2.2.2.2 (fun tt ht hW => ⟨none, f, o, rfl, ho, hO, hT, hF, by rw [ht]; exact h.2.1, h.2.2.2.F ht⟩) h.2.2.2.2.2 hdg X.2.2.2.2.2.1
end
theorem mw_1466 : Jvm.Cond.methodLink "BellMoneyModel" (92 : Nat) ({ cls := "BellMoneyModel", name := "isByte", desc := "(III)Z" } : Jvm.MethodName) ∈ Wd := List.mem_filter.mpr ⟨List.mem_of_getElem? (i := 1568) (by decide +kernel), by decide +kernel⟩
theorem mw_1468 : Jvm.Cond.instanceMethod ({ cls := "BellMoneyModel", name := "isByte", desc := "(III)Z" } : Jvm.MethodName) ∈ Wd := List.mem_filter.mpr ⟨List.mem_of_getElem? (i := 1570) (by decide +kernel), by decide +kernel⟩
theorem mw_1469 : Jvm.Cond.code ({ cls := "BellMoneyModel", name := "isByte", desc := "(III)Z" } : Jvm.MethodName) prog_13_method_12_code (4 : Nat) (Option.some Jvm.ClassFile.FieldType.boolean) ∈ Wd := List.mem_filter.mpr ⟨List.mem_of_getElem? (i := 1571) (by decide +kernel), by decide +kernel⟩
theorem ms_isByte : Cond.selects "BellMoneyModel" ⟨"BellMoneyModel", "isByte", "(III)Z"⟩ ⟨"BellMoneyModel", "isByte", "(III)Z"⟩ ∈ Wd := List.mem_filter.mpr ⟨List.mem_of_getElem? (i := 40) (by decide +kernel), by decide +kernel⟩
/-- the pool in which next works -/
def nxF (lo : Nat) (f : Nat → va_E) (fs : List Value) (K : Nat) (tok st val : Int32) (wd : Int64) : Nat → va_E := va_up f lo (.inr (11, nxt fs (nI K) tok st val wd))
/-- what stands around it -/
def NXC (t : Nat → ClassId) (lo : Nat) (f : Nat → va_E) (fs : List Value) (gt : Nat → Int32) (T : Nat) : Prop := fs.length = 49 ∧ fs[5]? = some (.ref (lo + 5)) ∧ fs[6]? = some (.int (nI T)) ∧ f (lo + 5) = .inl (t 2, 1400, .inl gt) ∧ T ≤ 1400
section
variable {p : Program} {l : Launch} {e : Env} {R : Room} {s : State} {m : MethodId} {args : Array Value} {below : List Frame} {meth : Method} {c : Code} {H : Heap} {locs : List Loc} {cells slots : Nat} {Q : State → Prop}
variable {cc : ByteArray} {nl : Nat} {ret : Option FieldType} {pc : Nat} {ls : Array Slot} {rest : List Value} {D : va_G} {t : Nat → ClassId} {lo n : Nat} {f : Nat → va_E} {fs : List Value} {gt : Nat → Int32} {T K : Nat} {tok st val : Int32} {wd : Int64} {A : Nat → Prop}
theorem nx_at (hn : 17 ≤ n) : px_at lo n (nxF lo f fs K tok st val wd) lo (.inr (11, nxt fs (nI K) tok st val wd)) := ⟨⟨by omega, by omega⟩, va_up_self ..⟩
theorem nx_is (C : NXC t lo f fs gt T) (hn : 17 ≤ n) (X : CX p s m args meth c RX11 cc nl ret) (h : HX D t lo n (nxF lo f fs K tok st val wd) A s H locs) (hK : K ≤ 1400) (hls : ls.size = nl) (h0 : ls[0]? = some (.val (.ref lo))) (hR : 1 ≤ R.frames ∧ 23 ≤ R.locals) (hRc : cells ≤ R.cells ∧ slots ≤ R.slots) (hrm : (rest.map fun v => v.category).sum ≤ 8) {a b : Int} {a' b' : Int32} (ha : (Int8.ofInt a).toInt32 = a') (hb : (Int8.ofInt b).toInt32 = b')
    (d1 : decode cc pc = .ok (.aload_n 0, 1)) (d2 : decode cc (pc + 1) = .ok (.aload_n 0, 1)) (d3 : decode cc (pc + 1 + 1) = .ok (.getfield 89, 3)) (d4 : decode cc (pc + 1 + 1 + 3) = .ok (.bipush a, 2)) (d5 : decode cc (pc + 1 + 1 + 3 + 2) = .ok (.bipush b, 2)) (d6 : decode cc (pc + 1 + 1 + 3 + 2 + 2) = .ok (.invokevirtual 92, 3))
    (kk : ∀ (H1 : Heap) (locs1 : List Loc), HX D t lo n (nxF lo f fs K tok st val wd) A s H1 locs1 → W p l e R s m args below meth c H1 locs1 cells slots Q (F0 m (pc + 1 + 1 + 3 + 2 + 2 + 3) ls (.int (byF gt T K a' b') :: rest))) : W p l e R s m args below meth c H locs cells slots Q (F0 m pc ls rest) := by
  obtain ⟨C1, C2, C3, C4, C5⟩ := C
  refine lv_aload_n X.1 X.2.1 d1 rfl h0 ?_
  refine lv_aload_n X.1 X.2.1 d2 rfl h0 ?_
  refine bx_get fl_X11_ok (i := 89) rfl X h (nx_at hn) (nxt_at C1).1 d3 ?_
  refine lv_bipush X.1 X.2.1 d4 ha ?_
  refine lv_bipush X.1 X.2.1 d5 hb ?_
  refine px_callV (k := 0) (idx := 92) (na := 3) (rest := rest) X h (c_isByte l D t lo n _ (va_up_self ..) (by rw [nxt_off (by decide)]; exact C2) (by rw [nxt_off (by decide)]; exact C3) (by rw [va_up_ne _ _ (by omega)]; exact C4) C5 hK hn a' b') (nx_at hn) (rfl : vwCl[11]? = some _) mw_1466 mw_1468 ms_isByte mw_12 mw_1469 (by decide +kernel) ⟨hR.1, hR.2⟩ hRc hls rfl rfl hrm d6 (fun H1 locs1 h1 _ => kk H1 locs1 h1)
theorem nx_inc (C : NXC t lo f fs gt T) (hn : 17 ≤ n) (X : CX p s m args meth c RX11 cc nl ret) (h : HX D t lo n (nxF lo f fs K tok st val wd) A s H locs) (h0 : ls[0]? = some (.val (.ref lo)))
    (d1 : decode cc pc = .ok (.aload_n 0, 1)) (d2 : decode cc (pc + 1) = .ok (.dup, 1)) (d3 : decode cc (pc + 1 + 1) = .ok (.getfield 89, 3)) (d4 : decode cc (pc + 1 + 1 + 3) = .ok (.iconst 1, 1)) (d5 : decode cc (pc + 1 + 1 + 3 + 1) = .ok (.iadd, 1)) (d6 : decode cc (pc + 1 + 1 + 3 + 1 + 1) = .ok (.putfield 89, 3))
    (kk : ∀ (H1 : Heap) (locs1 : List Loc), HX D t lo n (nxF lo f fs (K + 1) tok st val wd) A s H1 locs1 → W p l e R s m args below meth c H1 locs1 cells slots Q (F0 m (pc + 1 + 1 + 3 + 1 + 1 + 3) ls rest)) : W p l e R s m args below meth c H locs cells slots Q (F0 m pc ls rest) := by
  obtain ⟨C1, C2, C3, C4, C5⟩ := C
  refine lv_aload_n X.1 X.2.1 d1 rfl h0 ?_
  refine lv_dup X.1 X.2.1 d2 rfl ?_
  refine bx_get fl_X11_ok (i := 89) rfl X h (nx_at hn) (nxt_at C1).1 d3 ?_
  refine lv_iconst (v := 1) X.1 X.2.1 d4 (by decide) ?_
  refine lv_iadd X.1 X.2.1 d5 ?_
  rw [nI_1]
  refine bx_puti fl_X11_ok (i := 89) rfl X h (nx_at hn) (by rw [nxt_len, C1]; decide) d6 (fun H1 locs1 h1 => kk H1 locs1 ?_)
  unfold nxF at h1
  rw [va_up_up, nxt7] at h1
  exact h1
end
