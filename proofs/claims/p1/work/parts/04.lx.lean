/-! Pools told by a list of cells: es[i] lies at lo + i. Contracts over them. -/
abbrev HL (D : va_G) (t : Nat → ClassId) (lo : Nat) (es : List va_E) (A : Nat → Prop) (s : State) (H : Heap) (locs : List Loc) : Prop := HX D t lo es.length (px_f lo es) A s H locs
def QcL (D : va_G) (lo n : Nat) (Post : Option Value → List va_E → Prop) : Array Value → State → Outcome → State → Prop := fun _ st oc tt => ∃ (ov : Option Value) (es' : List va_E), oc = .returned ov ∧ Post ov es' ∧ es'.length = n ∧ va_P D vwCl (px_W lo n (px_f lo es')) tt.heap ∧ va_F (px_A lo n) st tt
abbrev MetL (l : Launch) (y : MethodName) (cc : ByteArray) (nl : Nat) (ret : Option FieldType) (k : Nat) (D : va_G) (t : Nat → ClassId) (lo : Nat) (es : List va_E) (av : List Value) (Post : Option Value → List va_E → Prop) : Prop :=
  Met l y (px_ws y cc nl ret) (px_rm k) (PcM D t lo es.length (px_f lo es) av) (QcL D lo es.length Post) 0 0 (px_A lo es.length)
/-- the answer o, the cells as they were -/
def PS (es : List va_E) (o : Option Value) : Option Value → List va_E → Prop := fun ov es' => ov = o ∧ es' = es
/-- the answer o -/
def PF (o : Option Value) : Option Value → List va_E → Prop := fun ov _ => ov = o
theorem px_s1 {α : Type} {l : List α} {i : Nat} {e e0 : α} (h : l[i]? = some e0) : (l.set i e)[i]? = some e := by
  rw [List.getElem?_set, if_pos rfl, if_pos (List.getElem?_eq_some_iff.mp h).1]
theorem px_s2 {α : Type} {l : List α} {i j : Nat} {e : α} {r : Option α} (hij : i ≠ j) (h : l[j]? = r) : (l.set i e)[j]? = r := by
  rw [List.getElem?_set, if_neg hij, h]
theorem px_ss {α : Type} {l : List α} {i : Nat} {e : α} (h : l[i]? = some e) : l.set i e = l := by
  apply List.ext_getElem?
  intro j
  by_cases hi : i = j
  · subst hi; rw [px_s1 h, h]
  · rw [px_s2 hi rfl]
theorem px_fs {lo i : Nat} {es : List va_E} {e : va_E} (h : es[i]? = some e) : px_at lo es.length (px_f lo es) (lo + i) e := px_f_at h
section LXM
variable {l : Launch} {y : MethodName} {cc : ByteArray} {nl : Nat} {ret : Option FieldType} {k : Nat} {D : va_G} {t : Nat → ClassId} {lo : Nat} {es : List va_E} {av : List Value} {Post : Option Value → List va_E → Prop}
theorem MetL.start (hy : plainName y.cls = true) (hn : (lg_sl av).length ≤ nl)
    (body : ∀ (p : Program) (e : Env) (s : State) (m : MethodId) (below : List Frame) (meth : Method) (c : Code), CX p s m av.toArray meth c y.cls cc nl ret → HL D t lo es (px_A lo es.length) s s.heap [] → ∀ ls : Array Slot, lv_has ls nl (lv_args 0 av) →
      W p l e (px_rm k) s m av.toArray below meth c s.heap [] 0 0 (MQ below (QcL D lo es.length Post) av.toArray s 0 0 (px_A lo es.length)) (F0 m 0 ls [])) : MetL l y cc nl ret k D t lo es av Post := by
  refine Met.ofW (cc := cc) (maxL := nl) (ret := ret) hy rfl ?_
  intro p e s m args below meth c s₁ B hml hv
  obtain ⟨rfl, hK, hP⟩ := hv
  have hts := atoms_spec (ws := px_ws y cc nl ret) B.pre
  have hl := lv_entry av (n := nl) hn
  rw [lg_entry_eq]
  exact body p e s m below meth c ⟨B.exec, B.bytes, hml, findClass_of_methodNamed B.named, fun w h => hts w (List.mem_cons_of_mem _ h), B.notSynchronized, B.returns⟩ ⟨hK, hP, fun q h1 h2 => ⟨h1, h2⟩, va_S.rf⟩ _ hl
end LXM
section LXR
variable {p : Program} {l : Launch} {e : Env} {R : Room} {s : State} {m : MethodId} {args : Array Value} {below : List Frame} {meth : Method} {c : Code} {H : Heap} {locs : List Loc} {cells slots : Nat} {Q : State → Prop}
variable {cc : ByteArray} {own : String} {nl : Nat} {ret : Option FieldType} {pc : Nat} {ls : Array Slot} {rest : List Value} {D : va_G} {t : Nat → ClassId} {lo n : Nat} {es es' : List va_E} {A : Nat → Prop} {Post : Option Value → List va_E → Prop}
theorem px_ti {x y : Int32} (h : x = y) (k : W p l e R s m args below meth c H locs cells slots Q (F0 m pc ls (.int y :: rest))) : W p l e R s m args below meth c H locs cells slots Q (F0 m pc ls (.int x :: rest)) := h ▸ k
theorem px_tl {x y : Int64} (h : x = y) (k : W p l e R s m args below meth c H locs cells slots Q (F0 m pc ls (.long y :: rest))) : W p l e R s m args below meth c H locs cells slots Q (F0 m pc ls (.long x :: rest)) := h ▸ k
theorem lx_of {H1 : Heap} {locs1 : List Loc} {i : Nat} {e : va_E} (hi : i < es.length) (h1 : HX D t lo es.length (va_up (px_f lo es) (lo + i) e) A s H1 locs1) (he : es.set i e = es') : HL D t lo es' A s H1 locs1 := by
  subst he
  have h2 := h1.congr (px_f_set hi)
  show HX D t lo (es.set i e).length _ _ _ _ _
  rw [List.length_set]
  exact h2
theorem lx_iret (X : CX p s m args meth c own cc nl (some .int)) (h : HL D t lo es' (px_A lo n) s H locs) (hn : es'.length = n) {v : Int32} (hp : Post (some (.int v)) es') (hdg : decode cc pc = .ok (.ireturn, 1)) : W p l e R s m args below meth c H locs cells slots (MQ below (QcL D lo n Post) args s cells slots (px_A lo n)) (F0 m pc ls [.int v]) := by
  subst hn
  exact W.iret X.1 X.2.1 X.2.2.2.2.2.2 (fun tt ht hW => ⟨_, es', rfl, hp, rfl, by rw [ht]; exact h.2.1, h.2.2.2.F ht⟩) h.2.2.2.2.2 hdg X.2.2.2.2.2.1
theorem lx_zret (X : CX p s m args meth c own cc nl (some .boolean)) (h : HL D t lo es' (px_A lo n) s H locs) (hn : es'.length = n) {v : Int32} (hp : Post (some (.int v)) es') (hz : narrow .boolean (.int v) = .int v) (hdg : decode cc pc = .ok (.ireturn, 1)) : W p l e R s m args below meth c H locs cells slots (MQ below (QcL D lo n Post) args s cells slots (px_A lo n)) (F0 m pc ls [.int v]) := by
  subst hn
  exact W.zret X.1 X.2.1 X.2.2.2.2.2.2 hz (fun tt ht hW => ⟨_, es', rfl, hp, rfl, by rw [ht]; exact h.2.1, h.2.2.2.F ht⟩) h.2.2.2.2.2 hdg X.2.2.2.2.2.1
theorem lx_lret (X : CX p s m args meth c own cc nl (some .long)) (h : HL D t lo es' (px_A lo n) s H locs) (hn : es'.length = n) {v : Int64} (hp : Post (some (.long v)) es') (hdg : decode cc pc = .ok (.lreturn, 1)) : W p l e R s m args below meth c H locs cells slots (MQ below (QcL D lo n Post) args s cells slots (px_A lo n)) (F0 m pc ls [.long v]) := by
  subst hn
  exact W.lret X.1 X.2.1 X.2.2.2.2.2.2 (fun tt ht hW => ⟨_, es', rfl, hp, rfl, by rw [ht]; exact h.2.1, h.2.2.2.F ht⟩) h.2.2.2.2.2 hdg X.2.2.2.2.2.1
theorem lx_vret (X : CX p s m args meth c own cc nl none) (h : HL D t lo es' (px_A lo n) s H locs) (hn : es'.length = n) (hp : Post none es') (hdg : decode cc pc = .ok (.return_, 1)) : W p l e R s m args below meth c H locs cells slots (MQ below (QcL D lo n Post) args s cells slots (px_A lo n)) (F0 m pc ls []) := by
  subst hn
  exact W.vret X.1 X.2.1 X.2.2.2.2.2.2 (fun tt ht hW => ⟨_, es', rfl, hp, rfl, by rw [ht]; exact h.2.1, h.2.2.2.F ht⟩) h.2.2.2.2.2 hdg X.2.2.2.2.2.1
theorem lx_getf (X : CX p s m args meth c own cc nl ret) (h : HL D t lo es A s H locs) {ref C : String} {T : u_T} {N ci index : Nat} {fs : List Value} (i : Nat) (ha : es[i]? = some (.inr (ci, fs))) (hc : vwCl[ci]? = some (C, T, N)) (hin : ∀ w ∈ u_ws C T N, w ∈ Wd) (k : Nat) (hk : k < N) (hlink : Cond.fieldLink own index ref (T k).2.1 (T k).2.2.1 ∈ Wd) (hsame : (T k).1 = ref) {v : Value} (hv : fs[k]? = some v) (hdg : decode cc pc = .ok (.getfield index, 3))
    (kk : W p l e R s m args below meth c H locs cells slots Q (F0 m (pc + 3) ls (v :: rest))) : W p l e R s m args below meth c H locs cells slots Q (F0 m pc ls (.ref (lo + i) :: rest)) :=
  px_getf X h (px_f_at ha) hc hin k hk hlink hsame hv hdg kk
theorem lx_put (X : CX p s m args meth c own cc nl ret) (h : HL D t lo es A s H locs) {ref C : String} {T : u_T} {N ci index : Nat} {fs : List Value} (i : Nat) (ha : es[i]? = some (.inr (ci, fs))) (hc : vwCl[ci]? = some (C, T, N)) (hin : ∀ w ∈ u_ws C T N, w ∈ Wd) {ty0 : Nat → FieldType} (hty : ∀ k, k < N → parseFieldDescriptor (T k).2.2.1 = some (ty0 k)) (hnm : ∀ a, a < N → ∀ b, b < N → a ≠ b → (T a).2.1 ≠ (T b).2.1) (k : Nat) (hk : k < N) (hlink : Cond.fieldLink own index ref (T k).2.1 (T k).2.2.1 ∈ Wd) (hsame : (T k).1 = ref) (hfin : (T k).2.2.2 = false) {v : Value} (hn : narrow (ty0 k) v = v) (hfit : fits (ty0 k) v = true) (hl : k < fs.length) (he : es.set i (.inr (ci, fs.set k v)) = es') (hdg : decode cc pc = .ok (.putfield index, 3))
    (kk : ∀ (H1 : Heap) (locs1 : List Loc), HL D t lo es' A s H1 locs1 → W p l e R s m args below meth c H1 locs1 cells slots Q (F0 m (pc + 3) ls rest)) : W p l e R s m args below meth c H locs cells slots Q (F0 m pc ls (v :: .ref (lo + i) :: rest)) :=
  px_putf X h (px_f_at ha) hc hin hty hnm k hk hlink hsame hfin hn hfit hl hdg (fun H1 locs1 h1 => kk H1 locs1 (lx_of (List.getElem?_eq_some_iff.mp ha).1 h1 he))
theorem lx_puts (X : CX p s m args meth c own cc nl ret) (h : HL D t lo es A s H locs) {ref C : String} {T : u_T} {N ci index : Nat} {fs : List Value} (i : Nat) (ha : es[i]? = some (.inr (ci, fs))) (hc : vwCl[ci]? = some (C, T, N)) (hin : ∀ w ∈ u_ws C T N, w ∈ Wd) {ty0 : Nat → FieldType} (hty : ∀ k, k < N → parseFieldDescriptor (T k).2.2.1 = some (ty0 k)) (hnm : ∀ a, a < N → ∀ b, b < N → a ≠ b → (T a).2.1 ≠ (T b).2.1) (k : Nat) (hk : k < N) (hlink : Cond.fieldLink own index ref (T k).2.1 (T k).2.2.1 ∈ Wd) (hsame : (T k).1 = ref) (hfin : (T k).2.2.2 = false) {v : Value} (hn : narrow (ty0 k) v = v) (hfit : fits (ty0 k) v = true) (hv : fs[k]? = some v) (hdg : decode cc pc = .ok (.putfield index, 3))
    (kk : ∀ (H1 : Heap) (locs1 : List Loc), HL D t lo es A s H1 locs1 → W p l e R s m args below meth c H1 locs1 cells slots Q (F0 m (pc + 3) ls rest)) : W p l e R s m args below meth c H locs cells slots Q (F0 m pc ls (v :: .ref (lo + i) :: rest)) :=
  px_puts X h (px_f_at ha) hc hin hty hnm k hk hlink hsame hfin hn hfit hv hdg kk
theorem lx_alen (X : CX p s m args meth c own cc nl ret) (h : HL D t lo es A s H locs) (i t0 : Nat) {cA : ClassId} {x : vp_A} {ty : FieldType} (ha : es[i]? = some (.inl (cA, x))) (ht : (px_T t)[t0]? = some (cA, ty)) {v : Int32} (hv : Int32.ofNat x.1 = v) (hdg : decode cc pc = .ok (.arraylength, 1))
    (kk : W p l e R s m args below meth c H locs cells slots Q (F0 m (pc + 1) ls (.int v :: rest))) : W p l e R s m args below meth c H locs cells slots Q (F0 m pc ls (.ref (lo + i) :: rest)) :=
  px_alen X h t0 (px_f_at ha) ht hv hdg kk
theorem lx_iald (X : CX p s m args meth c own cc nl ret) (h : HL D t lo es A s H locs) (i : Nat) {z : Nat} {g : Nat → Int32} (ha : es[i]? = some (.inl (t 0, z, .inl g))) {ix : Int32} (hin : vp_in ix z) {v : Int32} (hv : g ix.toNatClampNeg = v) (hdg : decode cc pc = .ok (.iaload, 1))
    (kk : W p l e R s m args below meth c H locs cells slots Q (F0 m (pc + 1) ls (.int v :: rest))) : W p l e R s m args below meth c H locs cells slots Q (F0 m pc ls (.int ix :: .ref (lo + i) :: rest)) :=
  px_iald X h (px_f_at ha) hin hdg (by rw [hv]; exact kk)
theorem lx_bald (X : CX p s m args meth c own cc nl ret) (h : HL D t lo es A s H locs) (i : Nat) {z : Nat} {g : Nat → Int32} (ha : es[i]? = some (.inl (t 2, z, .inl g))) {ix : Int32} (hin : vp_in ix z) {v : Int32} (hv : g ix.toNatClampNeg = v) (hdg : decode cc pc = .ok (.baload, 1))
    (kk : W p l e R s m args below meth c H locs cells slots Q (F0 m (pc + 1) ls (.int v :: rest))) : W p l e R s m args below meth c H locs cells slots Q (F0 m pc ls (.int ix :: .ref (lo + i) :: rest)) :=
  px_bald X h (px_f_at ha) hin hdg (by rw [hv]; exact kk)
theorem lx_zald (X : CX p s m args meth c own cc nl ret) (h : HL D t lo es A s H locs) (i : Nat) {z : Nat} {g : Nat → Int32} (ha : es[i]? = some (.inl (t 3, z, .inl g))) {ix : Int32} (hin : vp_in ix z) {v : Int32} (hv : g ix.toNatClampNeg = v) (hdg : decode cc pc = .ok (.baload, 1))
    (kk : W p l e R s m args below meth c H locs cells slots Q (F0 m (pc + 1) ls (.int v :: rest))) : W p l e R s m args below meth c H locs cells slots Q (F0 m pc ls (.int ix :: .ref (lo + i) :: rest)) :=
  px_zald X h (px_f_at ha) hin hdg (by rw [hv]; exact kk)
theorem lx_lald (X : CX p s m args meth c own cc nl ret) (h : HL D t lo es A s H locs) (i : Nat) {z : Nat} {g : Nat → Int64} (ha : es[i]? = some (.inl (t 1, z, .inr (.inl g)))) {ix : Int32} (hin : vp_in ix z) {v : Int64} (hv : g ix.toNatClampNeg = v) (hdg : decode cc pc = .ok (.laload, 1))
    (kk : W p l e R s m args below meth c H locs cells slots Q (F0 m (pc + 1) ls (.long v :: rest))) : W p l e R s m args below meth c H locs cells slots Q (F0 m pc ls (.int ix :: .ref (lo + i) :: rest)) :=
  px_lald X h (px_f_at ha) hin hdg (by rw [hv]; exact kk)
theorem lx_aald (X : CX p s m args meth c own cc nl ret) (h : HL D t lo es A s H locs) (i t0 : Nat) {cA : ClassId} {C : String} {z : Nat} {g : Nat → Option Nat} (ha : es[i]? = some (.inl (cA, z, .inr (.inr (.inr (.inr g)))))) (ht : (px_T t)[t0]? = some (cA, .object C)) {ix : Int32} (hin : vp_in ix z) {b : Nat} (hb : g ix.toNatClampNeg = some b) (hdg : decode cc pc = .ok (.aaload, 1))
    (kk : W p l e R s m args below meth c H locs cells slots Q (F0 m (pc + 1) ls (.ref b :: rest))) : W p l e R s m args below meth c H locs cells slots Q (F0 m pc ls (.int ix :: .ref (lo + i) :: rest)) :=
  px_aald X h t0 (px_f_at ha) ht hin hb hdg kk
theorem lx_iast (X : CX p s m args meth c own cc nl ret) (h : HL D t lo es A s H locs) (i : Nat) {z : Nat} {g : Nat → Int32} (ha : es[i]? = some (.inl (t 0, z, .inl g))) {ix x : Int32} (hin : vp_in ix z) (he : es.set i (.inl (t 0, z, .inl (upd g ix.toNatClampNeg x))) = es') (hdg : decode cc pc = .ok (.iastore, 1))
    (kk : ∀ (H1 : Heap) (locs1 : List Loc), HL D t lo es' A s H1 locs1 → W p l e R s m args below meth c H1 locs1 cells slots Q (F0 m (pc + 1) ls rest)) : W p l e R s m args below meth c H locs cells slots Q (F0 m pc ls (.int x :: .int ix :: .ref (lo + i) :: rest)) :=
  px_iast X h (px_f_at ha) hin hdg (fun H1 locs1 h1 => kk H1 locs1 (lx_of (List.getElem?_eq_some_iff.mp ha).1 h1 he))
theorem lx_iasts (X : CX p s m args meth c own cc nl ret) (h : HL D t lo es A s H locs) (i : Nat) {z : Nat} {g : Nat → Int32} (ha : es[i]? = some (.inl (t 0, z, .inl g))) {ix x : Int32} (hin : vp_in ix z) (hs : g ix.toNatClampNeg = x) (hdg : decode cc pc = .ok (.iastore, 1))
    (kk : ∀ (H1 : Heap) (locs1 : List Loc), HL D t lo es A s H1 locs1 → W p l e R s m args below meth c H1 locs1 cells slots Q (F0 m (pc + 1) ls rest)) : W p l e R s m args below meth c H locs cells slots Q (F0 m pc ls (.int x :: .int ix :: .ref (lo + i) :: rest)) := by
  refine lx_iast (es' := es) X h i ha hin ?_ hdg kk
  have : upd g ix.toNatClampNeg x = g := by
    funext q
    by_cases hq : q = ix.toNatClampNeg
    · subst hq; simp [upd, hs]
    · simp [upd, hq]
  rw [this]
  exact px_ss ha
theorem lx_lasts (X : CX p s m args meth c own cc nl ret) (h : HL D t lo es A s H locs) (i : Nat) {z : Nat} {g : Nat → Int64} (ha : es[i]? = some (.inl (t 1, z, .inr (.inl g)))) {ix : Int32} {x : Int64} (hin : vp_in ix z) (hs : g ix.toNatClampNeg = x) (hdg : decode cc pc = .ok (.lastore, 1))
    (kk : ∀ (H1 : Heap) (locs1 : List Loc), HL D t lo es A s H1 locs1 → W p l e R s m args below meth c H1 locs1 cells slots Q (F0 m (pc + 1) ls rest)) : W p l e R s m args below meth c H locs cells slots Q (F0 m pc ls (.long x :: .int ix :: .ref (lo + i) :: rest)) := by
  refine px_last X h (px_f_at ha) hin hdg (fun H1 locs1 h1 => kk H1 locs1 (lx_of (es' := es) (List.getElem?_eq_some_iff.mp ha).1 h1 ?_))
  have : vp_updL g ix.toNatClampNeg x = g := by
    funext q
    by_cases hq : q = ix.toNatClampNeg
    · subst hq; simp [vp_updL, hs]
    · simp [vp_updL, hq]
  rw [this]
  exact px_ss ha
theorem lx_bast (X : CX p s m args meth c own cc nl ret) (h : HL D t lo es A s H locs) (i : Nat) {z : Nat} {g : Nat → Int32} (ha : es[i]? = some (.inl (t 2, z, .inl g))) {ix x : Int32} (hin : vp_in ix z) (hdg : decode cc pc = .ok (.bastore, 1))
    (kk : ∀ (g' : Nat → Int32) (H1 : Heap) (locs1 : List Loc), HL D t lo (es.set i (.inl (t 2, z, .inl g'))) A s H1 locs1 → W p l e R s m args below meth c H1 locs1 cells slots Q (F0 m (pc + 1) ls rest)) : W p l e R s m args below meth c H locs cells slots Q (F0 m pc ls (.int x :: .int ix :: .ref (lo + i) :: rest)) :=
  px_bast X h (px_f_at ha) hin hdg (fun H1 locs1 h1 => kk _ H1 locs1 (lx_of (List.getElem?_eq_some_iff.mp ha).1 h1 rfl))
theorem lx_zast (X : CX p s m args meth c own cc nl ret) (h : HL D t lo es A s H locs) (i : Nat) {z : Nat} {g : Nat → Int32} (ha : es[i]? = some (.inl (t 3, z, .inl g))) {ix x : Int32} (hin : vp_in ix z) (hdg : decode cc pc = .ok (.bastore, 1))
    (kk : ∀ (g' : Nat → Int32) (H1 : Heap) (locs1 : List Loc), HL D t lo (es.set i (.inl (t 3, z, .inl g'))) A s H1 locs1 → W p l e R s m args below meth c H1 locs1 cells slots Q (F0 m (pc + 1) ls rest)) : W p l e R s m args below meth c H locs cells slots Q (F0 m pc ls (.int x :: .int ix :: .ref (lo + i) :: rest)) :=
  px_zast X h (px_f_at ha) hin hdg (fun H1 locs1 g' h1 => kk g' H1 locs1 (lx_of (List.getElem?_eq_some_iff.mp ha).1 h1 rfl))
theorem lx_back (h : HL D t lo es A s H locs) {av : Array Value} {st0 : List Value}
    (hr : va_Run p l e R s m args below meth c H locs cells slots 0 0 (F0 m pc ls st0) rest (QcL D lo es.length Post av) (px_A lo es.length))
    (kk : ∀ (ov : Option Value) (es2 : List va_E), Post ov es2 → es2.length = es.length → ∀ (H1 : Heap) (locs1 : List Loc), HL D t lo es2 A s H1 locs1 → (∀ q : Nat, q < H.size → ¬ px_A lo es.length q → H1[q]? = H[q]?) → W p l e R s m args below meth c H1 locs1 cells slots Q (F0 m (pc + 3) ls (ov.toList ++ rest))) : W p l e R s m args below meth c H locs cells slots Q (F0 m pc ls st0) := by
  intro T hT X0
  obtain ⟨v, st₀, tt, T', L, h0, X', hL, e1, e2, ⟨ov, es2, hv, hpost, hlen, hP2, hF⟩, st⟩ := hr T hT X0
  cases hv
  obtain ⟨hz, hk⟩ := hF
  rw [h0] at hz hk
  obtain ⟨t2, a1, b1⟩ := kk _ es2 hpost hlen T'.heap (locs ++ L) (by
      show HX D t lo es2.length _ _ _ _ _
      rw [hlen]
      exact ⟨h.1, by rw [e1]; exact hP2, h.2.2.1,
      ⟨Nat.le_trans h.2.2.2.1 (by rw [e1]; exact hz), fun q h1 h2 => by rw [e1, hk q (Nat.lt_of_lt_of_le h1 h.2.2.2.1) (fun z => h2 (h.2.2.1 q z.1 z.2))]; exact h.2.2.2.2.1 q h1 h2, fun q hq => by
        rcases List.mem_append.mp hq with h1 | h1
        · exact h.2.2.2.2.2 q h1
        · exact h.2.2.1 _ (hL q h1).1 (hL q h1).2⟩⟩) (fun q h1 h2 => by rw [e1]; exact hk q h1 h2) T' rfl X'
  exact ⟨t2, st t2 a1, b1⟩
theorem lx_callV (X : CX p s m args meth c own cc nl ret) (h : HL D t lo es A s H locs) {y : MethodName} {cy : ByteArray} {ny k idx na : Nat} {ry : Option FieldType} (i : Nat) {ci : Nat} {As : List Value} {C : String} {T : u_T} {N : Nat} {fs : List Value} {st0 : List Value}
    (hM : MetL l y cy ny ry k D t lo es (.ref (lo + i) :: As) Post) (hb : es[i]? = some (.inr (ci, fs))) (hc : vwCl[ci]? = some (C, T, N))
    (h1 : Cond.methodLink own idx y ∈ Wd) (h2 : Cond.instanceMethod y ∈ Wd) (h3 : Cond.selects C y y ∈ Wd) (h4 : Cond.initialized C ∈ Wd) (h5 : Cond.code y cy ny ry ∈ Wd)
    (hd : y.cls = C ∧ y.cls ≠ "java/lang/invoke/MethodHandle" ∧ y.cls ≠ "java/lang/invoke/VarHandle" ∧ (parseMethodDescriptor y.desc).map (fun d => d.parameters.length) = some na) (hR : k + 1 ≤ R.frames ∧ 8 + (ny + 11) + 60 * k ≤ R.locals) (hRc : cells ≤ R.cells ∧ slots ≤ R.slots)
    (hls : ls.size = nl) (hn : As.length = na) (hst : st0 = As.reverse ++ .ref (lo + i) :: rest) (hrm : (rest.map fun v => v.category).sum ≤ 8) (hdg : decode cc pc = .ok (.invokevirtual idx, 3))
    (kk : ∀ (ov : Option Value) (es2 : List va_E), Post ov es2 → es2.length = es.length → ∀ (H1 : Heap) (locs1 : List Loc), HL D t lo es2 A s H1 locs1 → (∀ q : Nat, q < H.size → ¬ px_A lo es.length q → H1[q]? = H[q]?) → W p l e R s m args below meth c H1 locs1 cells slots Q (F0 m (pc + 3) ls (ov.toList ++ rest))) : W p l e R s m args below meth c H locs cells slots Q (F0 m pc ls st0) := by
  have hG : GoodIn Wd (wsV own idx C y (px_ws y cy ny ry)) := by
    intro w hw
    unfold wsV at hw
    rcases List.mem_append.mp hw with q | q
    · simp only [List.mem_cons, List.not_mem_nil, or_false] at q
      rcases q with rfl | rfl | rfl | rfl
      · exact Wd_good _ h1
      · exact Wd_good _ h2
      · exact Wd_good _ h3
      · exact Wd_good _ h4
    · exact wd_all h5 w q
  have hat := px_f_at (lo := lo) hb
  refine lx_back h (rest := rest) (va_runV (As := As) (rest := rest) ⟨X.1, X.2.1, X.2.2.1, X.2.2.2.1, X.2.2.2.2.1⟩ hM (cwV na X.2.2.2.2.1 hG rfl rfl rfl hd hR) ⟨PcM.blind, va_recv h.1 h.2.1 hc (q0 := lo + i - lo) (by rw [px_get hat.1, hat.2]), fun U hU hW => ⟨rfl, va_K.moved hW.alike h.1, by rw [hU]; exact h.2.1⟩⟩ rfl hn hls hst (lv_room hrm) hdg hRc) kk
/-- a call that leaves the cells as they are -/
theorem lx_callVS (X : CX p s m args meth c own cc nl ret) (h : HL D t lo es A s H locs) {y : MethodName} {cy : ByteArray} {ny k idx na : Nat} {ry : Option FieldType} (i : Nat) {ci : Nat} {As : List Value} {ov : Option Value} {C : String} {T : u_T} {N : Nat} {fs : List Value} {st0 : List Value}
    (hM : MetL l y cy ny ry k D t lo es (.ref (lo + i) :: As) (PS es ov)) (hb : es[i]? = some (.inr (ci, fs))) (hc : vwCl[ci]? = some (C, T, N))
    (h1 : Cond.methodLink own idx y ∈ Wd) (h2 : Cond.instanceMethod y ∈ Wd) (h3 : Cond.selects C y y ∈ Wd) (h4 : Cond.initialized C ∈ Wd) (h5 : Cond.code y cy ny ry ∈ Wd)
    (hd : y.cls = C ∧ y.cls ≠ "java/lang/invoke/MethodHandle" ∧ y.cls ≠ "java/lang/invoke/VarHandle" ∧ (parseMethodDescriptor y.desc).map (fun d => d.parameters.length) = some na) (hR : k + 1 ≤ R.frames ∧ 8 + (ny + 11) + 60 * k ≤ R.locals) (hRc : cells ≤ R.cells ∧ slots ≤ R.slots)
    (hls : ls.size = nl) (hn : As.length = na) (hst : st0 = As.reverse ++ .ref (lo + i) :: rest) (hrm : (rest.map fun v => v.category).sum ≤ 8) (hdg : decode cc pc = .ok (.invokevirtual idx, 3))
    (kk : ∀ (H1 : Heap) (locs1 : List Loc), HL D t lo es A s H1 locs1 → W p l e R s m args below meth c H1 locs1 cells slots Q (F0 m (pc + 3) ls (ov.toList ++ rest))) : W p l e R s m args below meth c H locs cells slots Q (F0 m pc ls st0) :=
  lx_callV X h i hM hb hc h1 h2 h3 h4 h5 hd hR hRc hls hn hst hrm hdg (fun o e2 hp _ H1 locs1 h' _ => by obtain ⟨rfl, rfl⟩ := hp; exact kk H1 locs1 h')
theorem lx_callS (X : CX p s m args meth c own cc nl ret) (h : HL D t lo es A s H locs) {y : MethodName} {cy : ByteArray} {ny k idx na : Nat} {ry : Option FieldType} {As : List Value} {st0 : List Value}
    (hM : MetL l y cy ny ry k D t lo es As Post)
    (h1 : Cond.methodLink own idx y ∈ Wd) (h2 : Cond.static y ∈ Wd) (h4 : Cond.initialized y.cls ∈ Wd) (h5 : Cond.code y cy ny ry ∈ Wd)
    (hd : y.cls ≠ "java/lang/invoke/MethodHandle" ∧ y.cls ≠ "java/lang/invoke/VarHandle" ∧ (parseMethodDescriptor y.desc).map (fun d => d.parameters.length) = some na) (hR : k + 1 ≤ R.frames ∧ 8 + (ny + 11) + 60 * k ≤ R.locals) (hRc : cells ≤ R.cells ∧ slots ≤ R.slots)
    (hls : ls.size = nl) (hn : As.length = na) (hst : st0 = As.reverse ++ rest) (hrm : (rest.map fun v => v.category).sum ≤ 8) (hdg : decode cc pc = .ok (.invokestatic idx, 3))
    (kk : ∀ (ov : Option Value) (es2 : List va_E), Post ov es2 → es2.length = es.length → ∀ (H1 : Heap) (locs1 : List Loc), HL D t lo es2 A s H1 locs1 → (∀ q : Nat, q < H.size → ¬ px_A lo es.length q → H1[q]? = H[q]?) → W p l e R s m args below meth c H1 locs1 cells slots Q (F0 m (pc + 3) ls (ov.toList ++ rest))) : W p l e R s m args below meth c H locs cells slots Q (F0 m pc ls st0) := by
  have hG : GoodIn Wd (va_wsS own idx y (px_ws y cy ny ry)) := by
    intro w hw
    unfold va_wsS at hw
    rcases List.mem_append.mp hw with q | q
    · simp only [List.mem_cons, List.not_mem_nil, or_false] at q
      rcases q with rfl | rfl | rfl
      · exact Wd_good _ h1
      · exact Wd_good _ h2
      · exact Wd_good _ h4
    · exact wd_all h5 w q
  refine lx_back h (rest := rest) (va_runS (As := As) (rest := rest) ⟨X.1, X.2.1, X.2.2.1, X.2.2.2.1, X.2.2.2.2.1⟩ hM (va_cwS na X.2.2.2.2.1 hG rfl rfl rfl hd hR) ⟨PcM.blind, fun U hU hW => ⟨rfl, va_K.moved hW.alike h.1, by rw [hU]; exact h.2.1⟩⟩ rfl hn hls hst (lv_room hrm) hdg hRc) kk
theorem lx_callSS (X : CX p s m args meth c own cc nl ret) (h : HL D t lo es A s H locs) {y : MethodName} {cy : ByteArray} {ny k idx na : Nat} {ry : Option FieldType} {As : List Value} {ov : Option Value} {st0 : List Value}
    (hM : MetL l y cy ny ry k D t lo es As (PS es ov))
    (h1 : Cond.methodLink own idx y ∈ Wd) (h2 : Cond.static y ∈ Wd) (h4 : Cond.initialized y.cls ∈ Wd) (h5 : Cond.code y cy ny ry ∈ Wd)
    (hd : y.cls ≠ "java/lang/invoke/MethodHandle" ∧ y.cls ≠ "java/lang/invoke/VarHandle" ∧ (parseMethodDescriptor y.desc).map (fun d => d.parameters.length) = some na) (hR : k + 1 ≤ R.frames ∧ 8 + (ny + 11) + 60 * k ≤ R.locals) (hRc : cells ≤ R.cells ∧ slots ≤ R.slots)
    (hls : ls.size = nl) (hn : As.length = na) (hst : st0 = As.reverse ++ rest) (hrm : (rest.map fun v => v.category).sum ≤ 8) (hdg : decode cc pc = .ok (.invokestatic idx, 3))
    (kk : ∀ (H1 : Heap) (locs1 : List Loc), HL D t lo es A s H1 locs1 → W p l e R s m args below meth c H1 locs1 cells slots Q (F0 m (pc + 3) ls (ov.toList ++ rest))) : W p l e R s m args below meth c H locs cells slots Q (F0 m pc ls st0) :=
  lx_callS X h hM h1 h2 h4 h5 hd hR hRc hls hn hst hrm hdg (fun o e2 hp _ H1 locs1 h' _ => by obtain ⟨rfl, rfl⟩ := hp; exact kk H1 locs1 h')
/-- System.arraycopy of a row that holds what the other holds: nothing changes -/
theorem lx_copys (X : CX p s m args meth c own cc nl ret) (h : HL D t lo es A s H locs) {idx : Nat} (i j : Nat) {z0 z1 : Nat} {g g1 : Nat → Int32} (ha : es[i]? = some (.inl (t 0, z0, .inl g))) (hb : es[j]? = some (.inl (t 0, z1, .inl g1))) (hls : ls.size = nl)
    (h1 : Cond.methodLink own idx arraycopyName ∈ Wd) (h2 : Cond.native arraycopyName ∈ Wd) (h3 : Cond.static arraycopyName ∈ Wd) (h4 : Cond.initialized "java/lang/System" ∈ Wd)
    {sp dp k : Int32} (q1 : ¬ sp < 0) (q2 : ¬ dp < 0) (q3 : ¬ k < 0) (q4 : sp.toNatClampNeg + k.toNatClampNeg ≤ z0) (q5 : dp.toNatClampNeg + k.toNatClampNeg ≤ z1) (hfr : 1 ≤ R.frames) (hlo : (rest.map fun v => v.category).sum + (nativeFrameWords "java/lang/System" "arraycopy" 5 + 11) ≤ R.locals)
    (hs : va_cpy g g1 sp.toNatClampNeg dp.toNatClampNeg k.toNatClampNeg = g1) (hdg : decode cc pc = .ok (.invokestatic idx, 3))
    (kk : ∀ (H1 : Heap) (locs1 : List Loc), HL D t lo es A s H1 locs1 → W p l e R s m args below meth c H1 locs1 cells slots Q (F0 m (pc + 3) ls rest)) : W p l e R s m args below meth c H locs cells slots Q (F0 m pc ls (.int k :: .int dp :: .ref (lo + j) :: .int sp :: .ref (lo + i) :: rest)) := by
  have hat := px_f_at (lo := lo) ha
  have hbt := px_f_at (lo := lo) hb
  refine va_copyi (D := D) (cl := vwCl) (ws := px_W lo es.length (px_f lo es)) X.1 X.2.1 (by rw [X.2.2.1, hls]) X.2.2.2.1 (X.2.2.2.2.1 _ h1) (X.2.2.2.2.1 _ h2) (X.2.2.2.2.1 _ h3) (X.2.2.2.2.1 _ h4) h.1 h.2.1 (px_D h.2.2.1) h.2.2.2 (lo + i - lo) (lo + j - lo) 0 0 (ty := .int) (by rw [px_get hat.1, hat.2]) (by rw [px_get hbt.1, hbt.2]) rfl rfl rfl q1 q2 q3 q4 q5 (fun _ _ => rfl) hfr hlo hdg ?_
  intro H1 locs1 hP _ hS
  rw [hs, px_set hbt.1, px_upsame hbt.2] at hP
  exact kk H1 locs1 ⟨h.1, hP, h.2.2.1, hS⟩
end LXR
