/-! Ends and calls of methods over a pool; makings (constructors) over a list of cells. -/
section PXE
variable {p : Program} {l : Launch} {e : Env} {R : Room} {s : State} {m : MethodId} {args : Array Value} {below : List Frame} {meth : Method} {c : Code} {H : Heap} {locs : List Loc} {cells slots : Nat} {Q : State → Prop}
variable {cc : ByteArray} {own : String} {nl : Nat} {ret : Option FieldType} {pc : Nat} {ls : Array Slot} {rest : List Value} {D : va_G} {t : Nat → ClassId} {lo n : Nat} {f : Nat → va_E} {A : Nat → Prop} {a : Nat}
theorem px_iret (X : CX p s m args meth c own cc nl (some .int)) (h : HX D t lo n f (px_A lo n) s H locs) {v r : Int32} (hv : v = r) (hdg : decode cc pc = .ok (.ireturn, 1)) : W p l e R s m args below meth c H locs cells slots (MQ below (QcM D lo n f (some (.int r))) args s cells slots (px_A lo n)) (F0 m pc ls [.int v]) := by
  subst hv
  exact W.iret X.1 X.2.1 X.2.2.2.2.2.2 (fun tt ht hW => ⟨rfl, by rw [ht]; exact h.2.1, h.2.2.2.F ht⟩) h.2.2.2.2.2 hdg X.2.2.2.2.2.1
theorem px_zret (X : CX p s m args meth c own cc nl (some .boolean)) (h : HX D t lo n f (px_A lo n) s H locs) {v r : Int32} (hv : v = r) (hn : narrow .boolean (.int v) = .int v) (hdg : decode cc pc = .ok (.ireturn, 1)) : W p l e R s m args below meth c H locs cells slots (MQ below (QcM D lo n f (some (.int r))) args s cells slots (px_A lo n)) (F0 m pc ls [.int v]) := by
  subst hv
  exact W.zret X.1 X.2.1 X.2.2.2.2.2.2 hn (fun tt ht hW => ⟨rfl, by rw [ht]; exact h.2.1, h.2.2.2.F ht⟩) h.2.2.2.2.2 hdg X.2.2.2.2.2.1
theorem px_lret (X : CX p s m args meth c own cc nl (some .long)) (h : HX D t lo n f (px_A lo n) s H locs) {v r : Int64} (hv : v = r) (hdg : decode cc pc = .ok (.lreturn, 1)) : W p l e R s m args below meth c H locs cells slots (MQ below (QcM D lo n f (some (.long r))) args s cells slots (px_A lo n)) (F0 m pc ls [.long v]) := by
  subst hv
  exact W.lret X.1 X.2.1 X.2.2.2.2.2.2 (fun tt ht hW => ⟨rfl, by rw [ht]; exact h.2.1, h.2.2.2.F ht⟩) h.2.2.2.2.2 hdg X.2.2.2.2.2.1
theorem px_vret (X : CX p s m args meth c own cc nl none) (h : HX D t lo n f (px_A lo n) s H locs) (hdg : decode cc pc = .ok (.return_, 1)) : W p l e R s m args below meth c H locs cells slots (MQ below (QcM D lo n f none) args s cells slots (px_A lo n)) (F0 m pc ls []) :=
  W.vret X.1 X.2.1 X.2.2.2.2.2.2 (fun tt ht hW => ⟨rfl, by rw [ht]; exact h.2.1, h.2.2.2.F ht⟩) h.2.2.2.2.2 hdg X.2.2.2.2.2.1
theorem PcM.blind {av : List Value} : FrameBlind (PcM D t lo n f av) := fun a U g mk q => ⟨q.1, va_K.moved (u := U) (U := U.calling g mk a) (Vm.Alike.refl U.vm) q.2.1, q.2.2.1, SX.same (s := U) (U := U.calling g mk a) rfl rfl q.2.2.2⟩
theorem wd_all {y : MethodName} {cc : ByteArray} {nl : Nat} {ret : Option FieldType} (h : Cond.code y cc nl ret ∈ Wd) : GoodIn Wd (px_ws y cc nl ret) := fun w hw => (List.mem_cons.mp hw).elim (fun e => by rw [e]; exact Wd_good _ h) (Wd_good w)
/-- behind a call, whatever kind it was -/
theorem px_back (h : HX D t lo n f A s H locs) {f2 : Nat → va_E} {ov : Option Value} {av : Array Value} {st0 : List Value}
    (hr : va_Run p l e R s m args below meth c H locs cells slots 0 0 (F0 m pc ls st0) rest (QcM D lo n f2 ov av) (px_A lo n))
    (kk : ∀ (H1 : Heap) (locs1 : List Loc), HX D t lo n f2 A s H1 locs1 → (∀ q : Nat, q < H.size → ¬ px_A lo n q → H1[q]? = H[q]?) → W p l e R s m args below meth c H1 locs1 cells slots Q (F0 m (pc + 3) ls (ov.toList ++ rest))) : W p l e R s m args below meth c H locs cells slots Q (F0 m pc ls st0) := by
  intro T hT X0
  obtain ⟨v, st₀, tt, T', L, h0, X', hL, e1, e2, ⟨hv, hP2, hF⟩, st⟩ := hr T hT X0
  cases hv
  obtain ⟨hz, hk⟩ := hF
  rw [h0] at hz hk
  obtain ⟨t2, a1, b1⟩ := kk T'.heap (locs ++ L) ⟨h.1, by rw [e1]; exact hP2, h.2.2.1,
      ⟨Nat.le_trans h.2.2.2.1 (by rw [e1]; exact hz), fun q h1 h2 => by rw [e1, hk q (Nat.lt_of_lt_of_le h1 h.2.2.2.1) (fun z => h2 (h.2.2.1.1 q z.1 z.2))]; exact h.2.2.2.2.1 q h1 h2, fun q hq => by
        rcases List.mem_append.mp hq with h1 | h1
        · exact h.2.2.2.2.2 q h1
        · exact h.2.2.1.1 _ (hL q h1).1 (hL q h1).2⟩⟩ (fun q h1 h2 => by rw [e1]; exact hk q h1 h2) T' rfl X'
  exact ⟨t2, st t2 a1, b1⟩
theorem px_callV (X : CX p s m args meth c own cc nl ret) (h : HX D t lo n f A s H locs) {y : MethodName} {cy : ByteArray} {ny k idx ci na : Nat} {ry : Option FieldType} {f2 : Nat → va_E} {b : Nat} {As : List Value} {ov : Option Value} {C : String} {T : u_T} {N : Nat} {fs : List Value} {st0 : List Value}
    (hM : MetM l y cy ny ry k D t lo n f (.ref b :: As) f2 ov) (hb : px_at lo n f b (.inr (ci, fs))) (hc : vwCl[ci]? = some (C, T, N))
    (h1 : Cond.methodLink own idx y ∈ Wd) (h2 : Cond.instanceMethod y ∈ Wd) (h3 : Cond.selects C y y ∈ Wd) (h4 : Cond.initialized C ∈ Wd) (h5 : Cond.code y cy ny ry ∈ Wd)
    (hd : y.cls = C ∧ y.cls ≠ "java/lang/invoke/MethodHandle" ∧ y.cls ≠ "java/lang/invoke/VarHandle" ∧ (parseMethodDescriptor y.desc).map (fun d => d.parameters.length) = some na) (hR : k + 1 ≤ R.frames ∧ 8 + (ny + 11) + 60 * k ≤ R.locals) (hRc : cells ≤ R.cells ∧ slots ≤ R.slots)
    (hls : ls.size = nl) (hn : As.length = na) (hst : st0 = As.reverse ++ .ref b :: rest) (hrm : (rest.map fun v => v.category).sum ≤ 8) (hdg : decode cc pc = .ok (.invokevirtual idx, 3))
    (kk : ∀ (H1 : Heap) (locs1 : List Loc), HX D t lo n f2 A s H1 locs1 → (∀ q : Nat, q < H.size → ¬ px_A lo n q → H1[q]? = H[q]?) → W p l e R s m args below meth c H1 locs1 cells slots Q (F0 m (pc + 3) ls (ov.toList ++ rest))) : W p l e R s m args below meth c H locs cells slots Q (F0 m pc ls st0) := by
  have hG : GoodIn Wd (wsV own idx C y (px_ws y cy ny ry)) := by
    intro w hw
    unfold wsV at hw
    rcases List.mem_append.mp hw with q | q
    · simp only [List.mem_cons, List.not_mem_nil, or_false] at q
      rcases q with rfl | rfl | rfl | rfl
      · exact Wd_good _ h1
      · exact Wd_good _ h2
      · exact Wd_good _ h3
      · exact Wd_good _ h4
    · exact wd_all h5 w q
  refine px_back h (rest := rest) (va_runV (As := As) (rest := rest) ⟨X.1, X.2.1, X.2.2.1, X.2.2.2.1, X.2.2.2.2.1⟩ hM (cwV na X.2.2.2.2.1 hG rfl rfl rfl hd hR) ⟨PcM.blind, va_recv h.1 h.2.1 hc (q0 := b - lo) (by rw [px_get hb.1, hb.2]), fun U hU hW => ⟨rfl, va_K.moved hW.alike h.1, by rw [hU]; exact h.2.1, SX.into h.2.2.1.2 h.2.2.2 hU hW (fun q z => h.2.2.1.1 q z.1 z.2)⟩⟩ rfl hn hls hst (lv_room hrm) hdg hRc) kk
theorem px_callS (X : CX p s m args meth c own cc nl ret) (h : HX D t lo n f A s H locs) {y : MethodName} {cy : ByteArray} {ny k idx na : Nat} {ry : Option FieldType} {f2 : Nat → va_E} {As : List Value} {ov : Option Value} {st0 : List Value}
    (hM : MetM l y cy ny ry k D t lo n f As f2 ov)
    (h1 : Cond.methodLink own idx y ∈ Wd) (h2 : Cond.static y ∈ Wd) (h4 : Cond.initialized y.cls ∈ Wd) (h5 : Cond.code y cy ny ry ∈ Wd)
    (hd : y.cls ≠ "java/lang/invoke/MethodHandle" ∧ y.cls ≠ "java/lang/invoke/VarHandle" ∧ (parseMethodDescriptor y.desc).map (fun d => d.parameters.length) = some na) (hR : k + 1 ≤ R.frames ∧ 8 + (ny + 11) + 60 * k ≤ R.locals) (hRc : cells ≤ R.cells ∧ slots ≤ R.slots)
    (hls : ls.size = nl) (hn : As.length = na) (hst : st0 = As.reverse ++ rest) (hrm : (rest.map fun v => v.category).sum ≤ 8) (hdg : decode cc pc = .ok (.invokestatic idx, 3))
    (kk : ∀ (H1 : Heap) (locs1 : List Loc), HX D t lo n f2 A s H1 locs1 → (∀ q : Nat, q < H.size → ¬ px_A lo n q → H1[q]? = H[q]?) → W p l e R s m args below meth c H1 locs1 cells slots Q (F0 m (pc + 3) ls (ov.toList ++ rest))) : W p l e R s m args below meth c H locs cells slots Q (F0 m pc ls st0) := by
  have hG : GoodIn Wd (va_wsS own idx y (px_ws y cy ny ry)) := by
    intro w hw
    unfold va_wsS at hw
    rcases List.mem_append.mp hw with q | q
    · simp only [List.mem_cons, List.not_mem_nil, or_false] at q
      rcases q with rfl | rfl | rfl
      · exact Wd_good _ h1
      · exact Wd_good _ h2
      · exact Wd_good _ h4
    · exact wd_all h5 w q
  refine px_back h (rest := rest) (va_runS (As := As) (rest := rest) ⟨X.1, X.2.1, X.2.2.1, X.2.2.2.1, X.2.2.2.2.1⟩ hM (va_cwS na X.2.2.2.2.1 hG rfl rfl rfl hd hR) ⟨PcM.blind, fun U hU hW => ⟨rfl, va_K.moved hW.alike h.1, by rw [hU]; exact h.2.1, SX.into h.2.2.1.2 h.2.2.2 hU hW (fun q z => h.2.2.1.1 q z.1 z.2)⟩⟩ rfl hn hls hst (lv_room hrm) hdg hRc) kk
end PXE
/-! makings -/
def px_d : va_E := .inr (0, [])
def px_f (lo : Nat) (es : List va_E) : Nat → va_E := fun a => (es[a - lo]?).getD px_d
def px_nest : List Cond := [.methodLinkNest "BellMoney" 11 ⟨"BellMoney$Tape", "<init>", "()V"⟩ "BellMoney", .methodLinkNest "BellMoney" 30 ⟨"BellMoney$Forecast", "<init>", "()V"⟩ "BellMoney", .methodLinkNest "BellMoney$Forecast" 11 ⟨"BellMoney$State", "<init>", "()V"⟩ "BellMoney", .methodLinkNest "BellMoney$World" 17 ⟨"BellMoney$Town", "<init>", "()V"⟩ "BellMoney", .methodLinkNest "BellMoney$Town" 45 ⟨"BellMoney$Bells", "<init>", "()V"⟩ "BellMoney", .methodLinkNest "BellMoney$Town" 73 ⟨"BellMoney$Law", "<init>", "()V"⟩ "BellMoney", .methodLinkNest "BellMoney$World" 24 ⟨"BellMoney$State", "<init>", "()V"⟩ "BellMoney", .methodLinkNest "BellMoney" 65 ⟨"BellMoney$Row", "<init>", "()V"⟩ "BellMoney"]
def px_N (U : State) : Prop := (∀ w ∈ px_nest, va_Nw w U) ∧ va_AO "BellMoney$State" U ∧ va_AO "BellMoney$World" U ∧ va_AO "BellMoney$Row" U
theorem px_N.warm {s U : State} (hW : s.WarmedH U.vm) (h : px_N s) : px_N U := by
  refine ⟨?_, h.2.1.moved hW.alike, h.2.2.1.moved hW.alike, h.2.2.2.moved hW.alike⟩
  intro w hw
  have h1 := h.1 w hw
  simp only [px_nest, List.mem_cons, List.not_mem_nil, or_false] at hw
  rcases hw with rfl | rfl | rfl | rfl | rfl | rfl | rfl | rfl <;> exact va_Nw.warmM hW h1
theorem px_N.same {s U : State} (hv : s.vm = U.vm) (h : px_N s) : px_N U := by
  refine ⟨?_, h.2.1.moved (by rw [hv]; exact Vm.Alike.refl _), h.2.2.1.moved (by rw [hv]; exact Vm.Alike.refl _), h.2.2.2.moved (by rw [hv]; exact Vm.Alike.refl _)⟩
  intro w hw
  have h1 := h.1 w hw
  simp only [px_nest, List.mem_cons, List.not_mem_nil, or_false] at hw
  rcases hw with rfl | rfl | rfl | rfl | rfl | rfl | rfl | rfl <;> exact va_tabs rfl hv h1
/-- the heap now, in a making that began at s with its object at lo: the cells es from lo on are all there is -/
def NL (D : va_G) (t : Nat → ClassId) (lo : Nat) (es : List va_E) (s : State) (H : Heap) (locs : List Loc) : Prop :=
  HX D t lo es.length (px_f lo es) (fun q => lo ≤ q) s H locs ∧ H.size = lo + es.length ∧ lo ≤ s.heap.size ∧ px_N s
abbrev nl_rm (k mc ms : Nat) : Room := { frames := k, cells := mc, slots := ms, locals := 60 * k }
def PcN (D : va_G) (t : Nat → ClassId) (lo : Nat) (e : va_E) (av : List Value) : Array Value → State → Prop := fun v U => v = av.toArray ∧ va_K D vwCl (px_T t) U ∧ va_at D vwCl (lo, e) U.heap ∧ U.heap.size = lo + 1 ∧ px_N U ∧ SX t (fun q => lo ≤ q) U
def QcN (D : va_G) (lo : Nat) (es : List va_E) : Array Value → State → Outcome → State → Prop := fun _ st oc tt => oc = .returned none ∧ va_P D vwCl (px_W lo es.length (px_f lo es)) tt.heap ∧ tt.heap.size = lo + es.length ∧ va_F (fun q => lo ≤ q) st tt
abbrev MetN (l : Launch) (y : MethodName) (cc : ByteArray) (nl k mc ms : Nat) (D : va_G) (t : Nat → ClassId) (lo : Nat) (e : va_E) (av : List Value) (es : List va_E) : Prop :=
  Met l y (px_ws y cc nl none) (nl_rm k mc ms) (PcN D t lo e av) (QcN D lo es) mc ms (fun q => lo ≤ q)
theorem px_f_at {lo i : Nat} {es : List va_E} {e : va_E} (h : es[i]? = some e) : px_at lo es.length (px_f lo es) (lo + i) e := by
  have hi : i < es.length := (List.getElem?_eq_some_iff.mp h).1
  refine ⟨⟨by omega, by omega⟩, ?_⟩
  simp only [px_f]
  rw [show lo + i - lo = i by omega, h]
  rfl
theorem px_f_set {lo i : Nat} {es : List va_E} {e : va_E} (hi : i < es.length) : ∀ a, lo ≤ a → a < lo + es.length → va_up (px_f lo es) (lo + i) e a = px_f lo (es.set i e) a := by
  intro a h1 h2
  by_cases ha : a = lo + i
  · subst ha
    rw [va_up_self]
    simp only [px_f]
    rw [show lo + i - lo = i by omega, List.getElem?_set, if_pos rfl, if_pos hi]
    rfl
  · rw [va_up_ne _ _ ha]
    simp only [px_f]
    rw [List.getElem?_set, if_neg (by omega)]
section PXN
variable {p : Program} {l : Launch} {e : Env} {R : Room} {s : State} {m : MethodId} {args : Array Value} {below : List Frame} {meth : Method} {c : Code} {H : Heap} {locs : List Loc} {cells slots : Nat} {Q : State → Prop}
variable {cc : ByteArray} {own : String} {nl : Nat} {ret : Option FieldType} {pc : Nat} {ls : Array Slot} {rest : List Value} {D : va_G} {t : Nat → ClassId} {lo i : Nat} {es es' : List va_E}
theorem MetN.start {y : MethodName} {k mc ms : Nat} {e0 : va_E} {av : List Value} (hy : plainName y.cls = true) (hyn : y.name = "<init>") (hn : (lg_sl av).length ≤ nl)
    (body : ∀ (p : Program) (e : Env) (s : State) (m : MethodId) (below : List Frame) (meth : Method) (c : Code), CX p s m av.toArray meth c y.cls cc nl none → meth.name = "<init>" → NL D t lo [e0] s s.heap [] → ∀ ls : Array Slot, lv_has ls nl (lv_args 0 av) →
      W p l e (nl_rm k mc ms) s m av.toArray below meth c s.heap [] 0 0 (MQ below (QcN D lo es) av.toArray s mc ms (fun q => lo ≤ q)) (F0 m 0 ls [])) : MetN l y cc nl k mc ms D t lo e0 av es := by
  refine Met.ofW (cc := cc) (maxL := nl) (ret := none) hy rfl ?_
  intro p e s m args below meth c s₁ B hml hv
  obtain ⟨rfl, hK, hP, hz, hN, hSX⟩ := hv
  have hts := atoms_spec (ws := px_ws y cc nl none) B.pre
  have hl := lv_entry av (n := nl) hn
  rw [lg_entry_eq]
  exact body p e s m below meth c ⟨B.exec, B.bytes, hml, findClass_of_methodNamed B.named, fun w h => hts w (List.mem_cons_of_mem _ h), B.notSynchronized, B.returns⟩ ((name_of_methodNamed B.named B.method).1.trans hyn) ⟨⟨hK, px_Pof fun a h1 h2 => by
      have ha : a = lo := by simp at h2; omega
      subst ha
      simp only [px_f, Nat.sub_self]
      exact hP, ⟨fun q h1 h2 => h1, hSX⟩, va_S.rf⟩, hz, by omega, hN⟩ _ hl
theorem nl_vret (X : CX p s m args meth c own cc nl none) (h : NL D t lo es s H locs) (hdg : decode cc pc = .ok (.return_, 1)) : W p l e R s m args below meth c H locs cells slots (MQ below (QcN D lo es) args s cells slots (fun q => lo ≤ q)) (F0 m pc ls []) :=
  W.vret X.1 X.2.1 X.2.2.2.2.2.2 (fun tt ht hW => ⟨rfl, by rw [ht]; exact h.1.2.1, by rw [ht]; exact h.2.1, h.1.2.2.2.F ht⟩) h.1.2.2.2.2.2 hdg X.2.2.2.2.2.1
theorem nl_obj (X : CX p s m args meth c own cc nl ret) {idx : Nat} {a : Nat} (hls : ls.size = nl) (h1 : Cond.methodLink own idx Lib.objectInit ∈ Wd) (h2 : Cond.instanceMethod Lib.objectInit ∈ Wd) (h3 : Cond.code Lib.objectInit ⟨#[0xb1]⟩ 1 none ∈ Wd) (hf : 1 ≤ R.frames) (hlo : (rest.map fun v => v.category).sum + 12 ≤ R.locals) (hdg : decode cc pc = .ok (.invokespecial idx, 3))
    (kk : W p l e R s m args below meth c H locs cells slots Q (F0 m (pc + 3) ls rest)) : W p l e R s m args below meth c H locs cells slots Q (F0 m pc ls (.ref a :: rest)) :=
  W.objInit X.1 X.2.1 X.2.2.2.1 (X.2.2.2.2.1 _ h1) (X.2.2.2.2.1 _ h2) (X.2.2.2.2.1 _ h3) rfl (by rw [X.2.2.1]; exact hls) rfl hdg hf (by simpa [JFrame.monitorRoom] using hlo) kk
theorem nl_getf (X : CX p s m args meth c own cc nl ret) (h : NL D t lo es s H locs) {ref C : String} {T : u_T} {N ci index : Nat} {fs : List Value} (i : Nat) (ha : es[i]? = some (.inr (ci, fs))) (hc : vwCl[ci]? = some (C, T, N)) (hin : ∀ w ∈ u_ws C T N, w ∈ Wd) (k : Nat) (hk : k < N) (hlink : Cond.fieldLink own index ref (T k).2.1 (T k).2.2.1 ∈ Wd) (hsame : (T k).1 = ref) {v : Value} (hv : fs[k]? = some v) (hdg : decode cc pc = .ok (.getfield index, 3))
    (kk : W p l e R s m args below meth c H locs cells slots Q (F0 m (pc + 3) ls (v :: rest))) : W p l e R s m args below meth c H locs cells slots Q (F0 m pc ls (.ref (lo + i) :: rest)) :=
  px_getf X h.1 (px_f_at ha) hc hin k hk hlink hsame hv hdg kk
theorem nl_of {H1 : Heap} {locs1 : List Loc} (h : NL D t lo es s H locs) {i : Nat} {e : va_E} (hi : i < es.length) (hz : H1.size = H.size) (h1 : HX D t lo es.length (va_up (px_f lo es) (lo + i) e) (fun q => lo ≤ q) s H1 locs1) (he : es.set i e = es') : NL D t lo es' s H1 locs1 := by
  subst he
  refine ⟨?_, by rw [hz, h.2.1, List.length_set], h.2.2.1, h.2.2.2⟩
  rw [List.length_set]
  exact h1.congr (px_f_set hi)
theorem nl_putF (X : CX p s m args meth c own cc nl ret) (hin2 : meth.name = "<init>") (h : NL D t lo es s H locs) {ref C : String} {T : u_T} {N ci index : Nat} {fs : List Value} (i : Nat) (ha : es[i]? = some (.inr (ci, fs))) (hc : vwCl[ci]? = some (C, T, N)) (hin : ∀ w ∈ u_ws C T N, w ∈ Wd) {ty0 : Nat → FieldType} (hty : ∀ k, k < N → parseFieldDescriptor (T k).2.2.1 = some (ty0 k)) (hnm : ∀ a, a < N → ∀ b, b < N → a ≠ b → (T a).2.1 ≠ (T b).2.1) (k : Nat) (hk : k < N) (hlink : Cond.fieldLink own index ref (T k).2.1 (T k).2.2.1 ∈ Wd) (hsame : (T k).1 = ref) (hfin : (T k).2.2.2 = true) (hdecl : (T k).1 = own) {v : Value} (hn : narrow (ty0 k) v = v) (hfit : fits (ty0 k) v = true) (hl : k < fs.length) (he : es.set i (.inr (ci, fs.set k v)) = es') (hdg : decode cc pc = .ok (.putfield index, 3))
    (kk : ∀ (H1 : Heap) (locs1 : List Loc), NL D t lo es' s H1 locs1 → W p l e R s m args below meth c H1 locs1 cells slots Q (F0 m (pc + 3) ls rest)) : W p l e R s m args below meth c H locs cells slots Q (F0 m pc ls (v :: .ref (lo + i) :: rest)) := by
  have hi : i < es.length := (List.getElem?_eq_some_iff.mp ha).1
  have hat := px_f_at (lo := lo) ha
  have hts := X.2.2.2.2.1
  have hK := h.1.1
  have hget : (px_W lo es.length (px_f lo es))[lo + i - lo]? = some (lo + i, .inr (ci, fs)) := by rw [px_get hat.1, hat.2]
  have hap := va_apart (own := own) hts hin ty0 hty hnm hK hc
  obtain ⟨r, h1, cell, q1, q2, q3, q4⟩ := h.1.2.1 _ _ hget
  have hr : r = (C, T, N) := Option.some.inj (h1.symm.trans hc)
  subst hr
  obtain ⟨hS, hfc, kC, hkC, hkind⟩ := hK.1 ci _ hc
  obtain ⟨cf, kf, fi, fl, hif, hsl⟩ := hS k hk
  have hlay := hts _ (hin _ (u_in_lay hk))
  unfold u_lay at hlay
  rw [if_pos hfin] at hlay
  have hst := (u_facts hfc hkC (u_lays hts hin hk) hif).1
  have hcf : m.cls = cf := by
    obtain ⟨_, _, c', _, _, _, -, -, hf', -, -, -, hown2, -⟩ := Cond.laysFinal_spec hlay
    have e1 : c' = cf := by have := hif.symm.trans hf'; simp at this; exact this.1.symm
    rw [hdecl] at hown2
    rw [← e1]; exact Option.some.inj (X.2.2.2.1.symm.trans hown2)
  have h6 := u_fits hfc hkC hkind (Or.inr hlay) hif (hty k hk) hn hfit
  refine W.putFinK X.1 X.2.1 X.2.2.2.1 (X.2.2.2.2.1 _ hlink) (by rw [← hsame]; exact hif) hst hcf hin2 (by rw [q2]; exact h6) q1 q3 (by rw [hsl]; exact k2_hasslot (q4 k hk)) rfl rfl hdg fun H' e1 e2 e3 => ?_
  rw [hsl] at e1 ⊢
  have hPs := h.1.2.1.set (px_D h.1.2.2.1.1) hget (e := .inr (ci, fs.set k v)) ⟨_, hc, t_OB.to (V := updV (vp_V fs) k v) ⟨_, e1, q2, q3, t_set q4 hap hk v⟩ (fun j _ => vp_updV_set hl v j)⟩ e3
  rw [px_set hat.1] at hPs
  exact kk H' _ (nl_of h hi e2 ⟨hK, hPs, h.1.2.2.1, h.1.2.2.2.put e2 e3 (by omega)⟩ he)
theorem nl_put (X : CX p s m args meth c own cc nl ret) (h : NL D t lo es s H locs) {ref C : String} {T : u_T} {N ci index : Nat} {fs : List Value} (i : Nat) (ha : es[i]? = some (.inr (ci, fs))) (hc : vwCl[ci]? = some (C, T, N)) (hin : ∀ w ∈ u_ws C T N, w ∈ Wd) {ty0 : Nat → FieldType} (hty : ∀ k, k < N → parseFieldDescriptor (T k).2.2.1 = some (ty0 k)) (hnm : ∀ a, a < N → ∀ b, b < N → a ≠ b → (T a).2.1 ≠ (T b).2.1) (k : Nat) (hk : k < N) (hlink : Cond.fieldLink own index ref (T k).2.1 (T k).2.2.1 ∈ Wd) (hsame : (T k).1 = ref) (hfin : (T k).2.2.2 = false) {v : Value} (hn : narrow (ty0 k) v = v) (hfit : fits (ty0 k) v = true) (hl : k < fs.length) (he : es.set i (.inr (ci, fs.set k v)) = es') (hdg : decode cc pc = .ok (.putfield index, 3))
    (kk : ∀ (H1 : Heap) (locs1 : List Loc), NL D t lo es' s H1 locs1 → W p l e R s m args below meth c H1 locs1 cells slots Q (F0 m (pc + 3) ls rest)) : W p l e R s m args below meth c H locs cells slots Q (F0 m pc ls (v :: .ref (lo + i) :: rest)) := by
  have hi : i < es.length := (List.getElem?_eq_some_iff.mp ha).1
  have hat := px_f_at (lo := lo) ha
  have hts := X.2.2.2.2.1
  have hK := h.1.1
  have hget : (px_W lo es.length (px_f lo es))[lo + i - lo]? = some (lo + i, .inr (ci, fs)) := by rw [px_get hat.1, hat.2]
  have hap := va_apart (own := own) hts hin ty0 hty hnm hK hc
  obtain ⟨r, h1, cell, q1, q2, q3, q4⟩ := h.1.2.1 _ _ hget
  have hr : r = (C, T, N) := Option.some.inj (h1.symm.trans hc)
  subst hr
  obtain ⟨hS, hfc, kC, hkC, hkind⟩ := hK.1 ci _ hc
  obtain ⟨cf, kf, fi, fl, hif, hsl⟩ := hS k hk
  have hlay := hts _ (hin _ (u_in_lay hk))
  unfold u_lay at hlay
  rw [if_neg (by rw [hfin]; decide)] at hlay
  have hst := (u_facts hfc hkC (u_lays hts hin hk) hif).1
  have h6 := u_store hfc hkC hkind hlay hif (hty k hk) hn hfit
  refine W.putK X.1 X.2.1 (f := fl) ⟨X.2.2.2.1, X.2.2.2.2.1 _ hlink, ⟨_, _, _, by rw [← hsame]; exact hif⟩, hst⟩ (by rw [q2]; exact h6) q1 q3 (by rw [hsl]; exact k2_hasslot (q4 k hk)) rfl rfl hdg fun H' e1 e2 e3 => ?_
  rw [hsl] at e1 ⊢
  have hPs := h.1.2.1.set (px_D h.1.2.2.1.1) hget (e := .inr (ci, fs.set k v)) ⟨_, hc, t_OB.to (V := updV (vp_V fs) k v) ⟨_, e1, q2, q3, t_set q4 hap hk v⟩ (fun j _ => vp_updV_set hl v j)⟩ e3
  rw [px_set hat.1] at hPs
  exact kk H' _ (nl_of h hi e2 ⟨hK, hPs, h.1.2.2.1, h.1.2.2.2.put e2 e3 (by omega)⟩ he)
theorem nl_iast (X : CX p s m args meth c own cc nl ret) (h : NL D t lo es s H locs) (i : Nat) {z : Nat} {g : Nat → Int32} (ha : es[i]? = some (.inl (t 0, z, .inl g))) {ix x : Int32} (hin : vp_in ix z) (he : es.set i (.inl (t 0, z, .inl (upd g ix.toNatClampNeg x))) = es') (hdg : decode cc pc = .ok (.iastore, 1))
    (kk : ∀ (H1 : Heap) (locs1 : List Loc), NL D t lo es' s H1 locs1 → W p l e R s m args below meth c H1 locs1 cells slots Q (F0 m (pc + 1) ls rest)) : W p l e R s m args below meth c H locs cells slots Q (F0 m pc ls (.int x :: .int ix :: .ref (lo + i) :: rest)) := by
  have hi : i < es.length := (List.getElem?_eq_some_iff.mp ha).1
  have hat := px_f_at (lo := lo) ha
  have hget : (px_W lo es.length (px_f lo es))[lo + i - lo]? = some (lo + i, .inl (t 0, z, .inl g)) := by rw [px_get hat.1, hat.2]
  refine W.iast X.1 X.2.1 (h.1.2.1 _ _ hget) ((h.1.1.2 0 _ rfl).1 z (fun j => .int (g j))) (fun q => by cases q) (by show ¬ (ix < 0 ∨ (arrV _ _ _).slots.size ≤ _); rw [arrV_size]; exact hin) rfl rfl hdg fun H1 e1 e2 e3 => ?_
  have hPs := h.1.2.1.set (px_D h.1.2.2.1.1) hget (e := .inl (t 0, z, .inl (upd g ix.toNatClampNeg x))) (H1 := H1) (by
    show H1[lo + i]? = some (vp_cell _ _)
    rw [e1]
    rw [vp_cell_i, vp_cell_i, arrV_store]
    congr 2
    funext q
    by_cases hq : q = ix.toNatClampNeg
    · subst hq
      simp [updV, upd]
    · simp [updV, upd, hq]) e3
  rw [px_set hat.1] at hPs
  exact kk H1 _ (nl_of h hi e2 ⟨h.1.1, hPs, h.1.2.2.1, h.1.2.2.2.put e2 e3 (by omega)⟩ he)
theorem nl_aast (X : CX p s m args meth c own cc nl ret) (h : NL D t lo es s H locs) (i t0 j ci : Nat) {cA : ClassId} {z : Nat} {g : Nat → Option Nat} {r : vw_C} {vs : List Value} (ha : es[i]? = some (.inl (cA, z, .inr (.inr (.inr (.inr g)))))) (ht : (px_T t)[t0]? = some (cA, .object r.1)) (hv : es[j]? = some (.inr (ci, vs))) (hc : vwCl[ci]? = some r) {ix : Int32} (hin : vp_in ix z) (he : es.set i (.inl (cA, z, .inr (.inr (.inr (.inr (va_up g ix.toNatClampNeg (some (lo + j)))))))) = es') (hdg : decode cc pc = .ok (.aastore, 1))
    (kk : ∀ (H1 : Heap) (locs1 : List Loc), NL D t lo es' s H1 locs1 → W p l e R s m args below meth c H1 locs1 cells slots Q (F0 m (pc + 1) ls rest)) : W p l e R s m args below meth c H locs cells slots Q (F0 m pc ls (.ref (lo + j) :: .int ix :: .ref (lo + i) :: rest)) := by
  have hi : i < es.length := (List.getElem?_eq_some_iff.mp ha).1
  have hat := px_f_at (lo := lo) ha
  have hav := px_f_at (lo := lo) hv
  have hget : (px_W lo es.length (px_f lo es))[lo + i - lo]? = some (lo + i, .inl (cA, z, .inr (.inr (.inr (.inr g))))) := by rw [px_get hat.1, hat.2]
  have hgetv : (px_W lo es.length (px_f lo es))[lo + j - lo]? = some (lo + j, .inr (ci, vs)) := by rw [px_get hav.1, hav.2]
  have hlt : ix.toNatClampNeg < z := Nat.not_le.mp fun q => hin (Or.inr q)
  have h0 : ¬ ix < 0 := fun q => hin (Or.inl q)
  obtain ⟨r', hr', cellV, g1, g2, g3, -⟩ := h.1.2.1 _ _ hgetv
  have hcls := (h.1.1.1 ci r hc).2
  obtain ⟨kA, comp, k1, k2, k3, -⟩ := (h.1.1.2 t0 _ ht).2
  have hcomp : comp = D.1 ci := Option.some.inj (k3.symm.trans hcls.1)
  subst hcomp
  have hcls2 := hcls
  obtain ⟨kC, hkC, -⟩ := hcls.2
  refine W.aast X.1 X.2.1 (h.1.2.1 _ _ hget) (fun q h => by cases h) (fun h => by cases h) k1 k2 rfl hkC ⟨h0, by show _ < (arrV _ _ _).slots.size; rw [arrV_size]; exact hlt⟩ g1 (fun q h => by rw [g3] at h; cases h) (by rw [g2]; exact hkC) (by rw [g2]; exact va_assign hcls2) rfl rfl hdg fun H1 e1 e2 e3 => ?_
  have hPs := h.1.2.1.set (px_D h.1.2.2.1.1) hget (e := .inl (cA, z, .inr (.inr (.inr (.inr (va_up g ix.toNatClampNeg (some (lo + j)))))))) (H1 := H1) (by
    show H1[lo + i]? = some (vp_cell _ _)
    rw [e1]
    rw [vp_cell_q, vp_cell_q, arrV_store]
    congr 2
    funext q
    by_cases hq : q = ix.toNatClampNeg
    · subst hq
      simp [updV, va_up, va_rf]
    · simp [updV, va_up, hq]) e3
  rw [px_set hat.1] at hPs
  exact kk H1 _ (nl_of h hi e2 ⟨h.1.1, hPs, h.1.2.2.1, h.1.2.2.2.put e2 e3 (by omega)⟩ he)
theorem nl_alen (X : CX p s m args meth c own cc nl ret) (h : NL D t lo es s H locs) (i t0 : Nat) {cA : ClassId} {x : vp_A} {ty : FieldType} (ha : es[i]? = some (.inl (cA, x))) (ht : (px_T t)[t0]? = some (cA, ty)) {v : Int32} (hv : Int32.ofNat x.1 = v) (hdg : decode cc pc = .ok (.arraylength, 1))
    (kk : W p l e R s m args below meth c H locs cells slots Q (F0 m (pc + 1) ls (.int v :: rest))) : W p l e R s m args below meth c H locs cells slots Q (F0 m pc ls (.ref (lo + i) :: rest)) :=
  px_alen X h.1 t0 (px_f_at ha) ht hv hdg kk
/-- one cell more -/
theorem nl_more {H1 : Heap} (h : NL D t lo es s H locs) {e : va_E} (z1 : H1.size = H.size + 1) (o1 : ∀ q : Nat, q < H.size → H1[q]? = H[q]?) (he : va_at D vwCl (H.size, e) H1) : NL D t lo (es ++ [e]) s H1 locs := by
  refine ⟨⟨h.1.1, px_Pof fun a h1 h2 => ?_, ⟨fun q h1 _ => h1, h.1.2.2.1.2⟩, ⟨by rw [z1]; exact Nat.le_succ_of_le h.1.2.2.2.1, fun q h1 h2 => (o1 q (Nat.lt_of_lt_of_le h1 h.1.2.2.2.1)).trans (h.1.2.2.2.2.1 q h1 h2), h.1.2.2.2.2.2⟩⟩, by rw [z1, h.2.1, List.length_append]; rfl, h.2.2.1, h.2.2.2⟩
  rw [List.length_append] at h2
  simp only [List.length_cons, List.length_nil] at h2
  by_cases ha : a = lo + es.length
  · have e1 : px_f lo (es ++ [e]) a = e := by
      simp only [px_f]
      rw [ha, show lo + es.length - lo = es.length by omega]
      simp
    rw [e1, ha, ← h.2.1]
    exact he
  · have hlt : a < lo + es.length := by omega
    have e1 : px_f lo (es ++ [e]) a = px_f lo es a := by
      simp only [px_f]
      rw [List.getElem?_append_left (by omega)]
    rw [e1]
    exact va_at.kept (px_Pat h.1.2.1 ⟨h1, hlt⟩) (o1 a (by rw [h.2.1]; exact hlt))
theorem nl_new (X : CX p s m args meth c own cc nl ret) (h : NL D t lo es s H locs) {C : String} {T : u_T} {N ci index : Nat} (hin : ∀ w ∈ u_ws C T N, w ∈ Wd) {ty : Nat → FieldType} (hty : ∀ k, k < N → parseFieldDescriptor (T k).2.2.1 = some (ty k)) (hcl : Cond.classLink own index C ∈ Wd) (hinst : Cond.instantiable C N ∈ Wd) (hini : Cond.initialized C ∈ Wd) (hc : vwCl[ci]? = some (C, T, N)) {fs : List Value} (hfs : ∀ j, j < N → defaultValue (ty j) = vp_V fs j) {k : Nat} (hk : es.length = k) (he : es ++ [.inr (ci, fs)] = es') (hcells : cells + 1 ≤ R.cells) (hslots : slots + N ≤ R.slots) (hdg : decode cc pc = .ok (.new index, 3))
    (kk : ∀ (H1 : Heap), NL D t lo es' s H1 locs → W p l e R s m args below meth c H1 locs (cells + 1) (slots + N) Q (F0 m (pc + 3) ls (.ref (lo + k) :: rest))) : W p l e R s m args below meth c H locs cells slots Q (F0 m pc ls rest) := by
  subst hk; subst he
  have hts := X.2.2.2.2.1
  have hKn := h.1.1.1 ci _ hc
  refine W.newcK X.1 X.2.1 X.2.2.2.1 (hts _ hcl) (hts _ hinst) (hts _ hini) rfl hdg hcells hslots hKn.2.1 h.2.1 fun H1 kC hkC e1 z1 o1 => ?_
  refine kk H1 (nl_more h (by rw [h.2.1]; exact z1) (fun q hq => o1 q (by rw [← h.2.1]; exact hq)) ?_)
  rw [h.2.1]
  exact ⟨_, hc, (u_born ty hts hin hKn hkC e1 hty).to hfs⟩
theorem nl_newa (X : CX p s m args meth c own cc nl ret) (h : NL D t lo es s H locs) {atype : ArrayType} {ty : FieldType} (hty : newarray.typeOf atype = ty) (harr : Cond.arrayClass ty ∈ Wd) (t0 : Nat) {cA : ClassId} (ht : (px_T t)[t0]? = some (cA, ty)) (hnm : va_RA s cA ty = (s.vm.findClass ("[" ++ ty.toString) = some cA)) {n : Int32} {N : Nat} {a0 : vp_A} (ha : vp_cell cA a0 = arrV cA N (fun _ => defaultValue ty)) (hn : ¬ n < 0) (hN : n.toNatClampNeg = N) (hbytes : N * componentBytes ty ≤ 536870912) {k : Nat} (hk : es.length = k) (he : es ++ [.inl (cA, a0)] = es') (hcells : cells + 1 ≤ R.cells) (hslots : slots + N ≤ R.slots) (hdg : decode cc pc = .ok (.newarray atype, 2))
    (kk : ∀ (H1 : Heap), NL D t lo es' s H1 locs → W p l e R s m args below meth c H1 locs (cells + 1) (slots + N) Q (F0 m (pc + 2) ls (.ref (lo + k) :: rest))) : W p l e R s m args below meth c H locs cells slots Q (F0 m pc ls (.int n :: rest)) := by
  subst hty; subst hk; subst he
  refine va_newaK X.1 X.2.1 (X.2.2.2.2.1 _ harr) rfl hdg rfl hn hN hbytes hcells hslots h.2.1 fun H1 cA' e1 z1 o1 hAr hNm => ?_
  have h2 := (h.1.1.2 t0 _ ht).2
  rw [hnm] at h2
  have hc : cA' = cA := Option.some.inj (hNm.symm.trans h2)
  subst hc
  refine kk H1 (nl_more h (by rw [h.2.1]; exact z1) (fun q hq => o1 q (by rw [← h.2.1]; exact hq)) ?_)
  rw [h.2.1]
  show H1[lo + es.length]? = some (vp_cell _ _)
  rw [ha]
  exact e1
theorem nl_newq (X : CX p s m args meth c own cc nl ret) (h : NL D t lo es s H locs) {C : String} {index : Nat} (hcl : Cond.classLink own index C ∈ Wd) (hover : va_AO C s) (t0 : Nat) {cA : ClassId} (ht : (px_T t)[t0]? = some (cA, .object C)) {n : Int32} {N : Nat} (hn : ¬ n < 0) (hN : n.toNatClampNeg = N) (hbytes : N * 4 ≤ 536870912) {k : Nat} (hk : es.length = k) (he : es ++ [.inl (cA, N, .inr (.inr (.inr (.inr (fun _ => none)))))] = es') (hcells : cells + 1 ≤ R.cells) (hslots : slots + N ≤ R.slots) (hdg : decode cc pc = .ok (.anewarray index, 3))
    (kk : ∀ (H1 : Heap), NL D t lo es' s H1 locs → W p l e R s m args below meth c H1 locs (cells + 1) (slots + N) Q (F0 m (pc + 3) ls (.ref (lo + k) :: rest))) : W p l e R s m args below meth c H locs cells slots Q (F0 m pc ls (.int n :: rest)) := by
  subst hN; subst hk; subst he
  refine W.anew X.1 X.2.1 X.2.2.2.1 (X.2.2.2.2.1 _ hcl) (va_AO.use hover) rfl hdg rfl hn hbytes hcells hslots fun cA' kA comp f1 f2 f3 f4 => ?_
  obtain ⟨kA2, comp2, -, -, -, g4⟩ := (h.1.1.2 t0 _ ht).2
  have hc : cA' = cA := Option.some.inj (f1.symm.trans g4)
  subst hc
  generalize hH1 : H.push ({ cls := cA', slots := Array.replicate n.toNatClampNeg .null, vm := .none } : Cell) = H1
  have z1 : H1.size = H.size + 1 := by rw [← hH1, Array.size_push]
  have e1 : H1[H.size]? = some (arrV cA' n.toNatClampNeg (fun _ => .null)) := by rw [← hH1, Array.getElem?_push_size, ← arrV_new]
  have o1 : ∀ q : Nat, q < H.size → H1[q]? = H[q]? := fun q hq => by rw [← hH1, Array.getElem?_push, if_neg (Nat.ne_of_lt hq)]
  have g := kk H1 (nl_more h z1 o1 (by
    show H1[H.size]? = some (vp_cell _ _)
    rw [vp_cell_q]
    exact e1))
  rw [← h.2.1] at g
  exact g
/-- behind a making that was called: the callee's cells in place of the last one -/
theorem nl_back (h : NL D t lo es s H locs) {mc ms b : Nat} {es0 es2 : List va_E} {e0 : va_E} {av : Array Value} {st0 : List Value} (hes : es = es0 ++ [e0]) (hb : b = lo + es0.length) (he : es0 ++ es2 = es')
    (hr : va_Run p l e R s m args below meth c H locs cells slots mc ms (F0 m pc ls st0) rest (QcN D b es2 av) (fun q => b ≤ q))
    (kk : ∀ (H1 : Heap) (locs1 : List Loc), NL D t lo es' s H1 locs1 → W p l e R s m args below meth c H1 locs1 (cells + mc) (slots + ms) Q (F0 m (pc + 3) ls rest)) : W p l e R s m args below meth c H locs cells slots Q (F0 m pc ls st0) := by
  subst he; subst hb; subst hes
  intro T hT X0
  obtain ⟨v, st₀, tt, T', L, h0, X', hL, e1, e2, ⟨hv, hP2, hz2, hF⟩, st⟩ := hr T hT X0
  cases hv
  obtain ⟨hz, hk⟩ := hF
  rw [h0] at hz hk
  have hHs : H.size = lo + (es0.length + 1) := by rw [h.2.1, List.length_append]; rfl
  have g : NL D t lo (es0 ++ es2) s T'.heap (locs ++ L) := by
    refine ⟨⟨h.1.1, px_Pof fun a h1 h2 => ?_, ⟨fun q h1 _ => h1, h.1.2.2.1.2⟩, ⟨Nat.le_trans h.1.2.2.2.1 (by rw [e1]; exact hz), fun q h1 h2 => by rw [e1, hk q (Nat.lt_of_lt_of_le h1 h.1.2.2.2.1) (fun z => h2 (by omega))]; exact h.1.2.2.2.2.1 q h1 h2, fun q hq => by
        rcases List.mem_append.mp hq with h1 | h1
        · exact h.1.2.2.2.2.2 q h1
        · have := hL q h1; omega⟩⟩, by rw [e1, hz2, List.length_append]; omega, h.2.2.1, h.2.2.2⟩
    rw [List.length_append] at h2
    by_cases ha : a < lo + es0.length
    · have e3 : px_f lo (es0 ++ es2) a = px_f lo (es0 ++ [e0]) a := by
        simp only [px_f]
        rw [List.getElem?_append_left (by omega), List.getElem?_append_left (by omega)]
      rw [e3]
      refine va_at.kept (px_Pat h.1.2.1 ⟨h1, by rw [List.length_append]; omega⟩) ?_
      rw [e1]
      exact hk a (by omega) (by omega)
    · have e3 : px_f lo (es0 ++ es2) a = px_f (lo + es0.length) es2 a := by
        simp only [px_f]
        rw [List.getElem?_append_right (by omega), show a - lo - es0.length = a - (lo + es0.length) by omega]
      rw [e3, e1]
      exact px_Pat hP2 ⟨by omega, by omega⟩
  obtain ⟨t2, a1, b1⟩ := kk T'.heap (locs ++ L) g T' rfl X'
  exact ⟨t2, st t2 a1, b1⟩
theorem PcN.blind {e0 : va_E} {av : List Value} : FrameBlind (PcN D t lo e0 av) := fun a U g mk q => ⟨q.1, va_K.moved (u := U) (U := U.calling g mk a) (Vm.Alike.refl U.vm) q.2.1, q.2.2.1, q.2.2.2.1, px_N.same (s := U) (U := U.calling g mk a) rfl q.2.2.2.2.1, SX.same (s := U) (U := U.calling g mk a) rfl rfl q.2.2.2.2.2⟩
theorem nl_pre (h : NL D t lo es s H locs) {b : Nat} {es0 : List va_E} {e0 : va_E} {av : List Value} (hes : es = es0 ++ [e0]) (hb : b = lo + es0.length) : PreS s H (PcN D t b e0 av) av := by
  subst hb; subst hes
  refine ⟨PcN.blind, fun U hU hW => ⟨rfl, va_K.moved hW.alike h.1.1, ?_, by rw [hU, h.2.1, List.length_append]; rfl, px_N.warm hW h.2.2.2, SX.into h.1.2.2.1.2 h.1.2.2.2 hU hW (fun q (z : lo + es0.length ≤ q) => show lo ≤ q by omega)⟩⟩
  have g := px_f_at (lo := lo) (es := es0 ++ [e0]) (i := es0.length) (e := e0) (by simp)
  have g2 := px_Pat h.1.2.1 g.1
  rw [g.2] at g2
  rw [hU]
  exact g2
theorem nl_callI (X : CX p s m args meth c own cc nl ret) (h : NL D t lo es s H locs) {y : MethodName} {cy : ByteArray} {ny k mc ms idx na b : Nat} {es0 es2 : List va_E} {e0 : va_E} {As : List Value} {st0 : List Value} (hM : MetN l y cy ny k mc ms D t b e0 (.ref b :: As) es2) (hes : es = es0 ++ [e0]) (hb : b = lo + es0.length) (he : es0 ++ es2 = es')
    (h1 : Cond.methodLink own idx y ∈ Wd) (h2 : Cond.instanceMethod y ∈ Wd) (h4 : Cond.initialized y.cls ∈ Wd) (h5 : Cond.code y cy ny none ∈ Wd) (hy : y.name = "<init>")
    (hd : y.cls ≠ "java/lang/invoke/MethodHandle" ∧ y.cls ≠ "java/lang/invoke/VarHandle" ∧ (parseMethodDescriptor y.desc).map (fun d => d.parameters.length) = some na) (hR : k + 1 ≤ R.frames ∧ 8 + (ny + 11) + 60 * k ≤ R.locals) (hRc : cells + mc ≤ R.cells ∧ slots + ms ≤ R.slots)
    (hls : ls.size = nl) (hn : As.length = na) (hst : st0 = As.reverse ++ .ref b :: rest) (hrm : (rest.map fun v => v.category).sum ≤ 8) (hdg : decode cc pc = .ok (.invokespecial idx, 3))
    (kk : ∀ (H1 : Heap) (locs1 : List Loc), NL D t lo es' s H1 locs1 → W p l e R s m args below meth c H1 locs1 (cells + mc) (slots + ms) Q (F0 m (pc + 3) ls rest)) : W p l e R s m args below meth c H locs cells slots Q (F0 m pc ls st0) :=
  nl_back h hes hb he (va_runI (As := As) (rest := rest) ⟨X.1, X.2.1, X.2.2.1, X.2.2.2.1, X.2.2.2.2.1⟩ hM (cwI na X.2.2.2.2.1 (wd_all h5) rfl rfl rfl (X.2.2.2.2.1 _ h4) (X.2.2.2.2.1 _ h1) (X.2.2.2.2.1 _ h2) hy hd hR) (nl_pre h hes hb) rfl hn hls hst (lv_room hrm) hdg hRc) kk
theorem nl_callN (X : CX p s m args meth c own cc nl ret) (h : NL D t lo es s H locs) {y : MethodName} {cy : ByteArray} {ny k mc ms idx na b : Nat} {es0 es2 : List va_E} {e0 : va_E} {As : List Value} {st0 : List Value} (hM : MetN l y cy ny k mc ms D t b e0 (.ref b :: As) es2) (hes : es = es0 ++ [e0]) (hb : b = lo + es0.length) (he : es0 ++ es2 = es')
    (h1 : Cond.methodLinkNest own idx y "BellMoney" ∈ px_nest) (h2 : Cond.instanceMethod y ∈ Wd) (h4 : Cond.initialized y.cls ∈ Wd) (h5 : Cond.code y cy ny none ∈ Wd) (hy : y.name = "<init>")
    (hd : y.cls ≠ "java/lang/invoke/MethodHandle" ∧ y.cls ≠ "java/lang/invoke/VarHandle" ∧ (parseMethodDescriptor y.desc).map (fun d => d.parameters.length) = some na) (hR : k + 1 ≤ R.frames ∧ 8 + (ny + 11) + 60 * k ≤ R.locals) (hRc : cells + mc ≤ R.cells ∧ slots + ms ≤ R.slots)
    (hls : ls.size = nl) (hn : As.length = na) (hst : st0 = As.reverse ++ .ref b :: rest) (hrm : (rest.map fun v => v.category).sum ≤ 8) (hdg : decode cc pc = .ok (.invokespecial idx, 3))
    (kk : ∀ (H1 : Heap) (locs1 : List Loc), NL D t lo es' s H1 locs1 → W p l e R s m args below meth c H1 locs1 (cells + mc) (slots + ms) Q (F0 m (pc + 3) ls rest)) : W p l e R s m args below meth c H locs cells slots Q (F0 m pc ls st0) :=
  nl_back h hes hb he (va_runIN (As := As) (rest := rest) ⟨X.1, X.2.1, X.2.2.1, X.2.2.2.1, X.2.2.2.2.1⟩ hM ⟨va_cnB na X.2.2.2.2.1 (wd_all h5) rfl rfl rfl (h.2.2.2.1 _ h1) (X.2.2.2.2.1 _ h4) hd hR, hy, X.2.2.2.2.1 _ h2⟩ (nl_pre h hes hb) rfl hn hls hst (lv_room hrm) hdg hRc) kk
end PXN
