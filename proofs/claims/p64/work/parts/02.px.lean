/-! A POOL: the cells from lo on, n of them, hold what f says of each address. Rows over it. -/
abbrev px_W (lo n : Nat) (f : Nat → va_E) : va_W := va_pl (List.range' lo n) f
def px_A (lo n : Nat) : Nat → Prop := fun q => lo ≤ q ∧ q < lo + n
def px_T (t : Nat → ClassId) : List (ClassId × FieldType) := [(t 0, .int), (t 1, .long), (t 2, .byte), (t 3, .boolean), (t 4, .object "BellMoney$State"), (t 5, .object "BellMoney$World"), (t 6, .object "BellMoney$Row")]
/-- of the pool, the address a holds e -/
def px_at (lo n : Nat) (f : Nat → va_E) (a : Nat) (e : va_E) : Prop := (lo ≤ a ∧ a < lo + n) ∧ f a = e
theorem px_get {lo n : Nat} {f : Nat → va_E} {a : Nat} (h : lo ≤ a ∧ a < lo + n) : (px_W lo n f)[a - lo]? = some (a, f a) := by
  have h1 : a - lo < n := by omega
  simp only [px_W, va_pl, List.getElem?_map, List.getElem?_range' h1, Option.map_some]
  have h2 : lo + 1 * (a - lo) = a := by omega
  rw [h2]
theorem px_inv {lo n : Nat} {f : Nat → va_E} {k : Nat} {q : Nat × va_E} (h : (px_W lo n f)[k]? = some q) : k < n ∧ q = (lo + k, f (lo + k)) := by
  have hk : k < n := by
    have := (List.getElem?_eq_some_iff.mp h).1
    simpa [px_W, va_pl] using this
  refine ⟨hk, ?_⟩
  have h2 := px_get (lo := lo) (n := n) (f := f) (a := lo + k) ⟨by omega, by omega⟩
  rw [show lo + k - lo = k by omega, h] at h2
  exact Option.some.inj h2
theorem px_set {lo n : Nat} {f : Nat → va_E} {a : Nat} {e : va_E} (h : lo ≤ a ∧ a < lo + n) : (px_W lo n f).set (a - lo) (a, e) = px_W lo n (va_up f a e) := by
  apply List.ext_getElem?
  intro i
  by_cases hi : i < n
  · have g := px_get (lo := lo) (n := n) (f := va_up f a e) (a := lo + i) ⟨by omega, by omega⟩
    rw [show lo + i - lo = i by omega] at g
    rw [g, List.getElem?_set]
    by_cases hia : a - lo = i
    · subst hia
      have : a - lo < (px_W lo n f).length := by simp [px_W, va_pl]; omega
      rw [if_pos rfl, if_pos this, show lo + (a - lo) = a by omega, va_up_self]
    · rw [if_neg hia]
      have g2 := px_get (lo := lo) (n := n) (f := f) (a := lo + i) ⟨by omega, by omega⟩
      rw [show lo + i - lo = i by omega] at g2
      rw [g2, va_up_ne f e (show lo + i ≠ a by omega)]
  · rw [List.getElem?_eq_none (by simp [px_W, va_pl]; omega), List.getElem?_eq_none (by simp [px_W, va_pl]; omega)]
theorem px_D {A : Nat → Prop} {lo n : Nat} {f : Nat → va_E} (h : ∀ q, lo ≤ q → q < lo + n → A q) : va_D A (px_W lo n f) := by
  refine ⟨fun i j p q hi hj e => ?_, fun k q hk => ?_⟩
  · obtain ⟨h1, rfl⟩ := px_inv hi
    obtain ⟨h2, rfl⟩ := px_inv hj
    have : lo + i = lo + j := e
    omega
  · obtain ⟨h1, rfl⟩ := px_inv hk
    exact h _ (by show lo ≤ lo + k; omega) (by show lo + k < lo + n; omega)
theorem px_Pof {D : va_G} {cl : List vw_C} {lo n : Nat} {f : Nat → va_E} {H : Heap} (h : ∀ a, lo ≤ a → a < lo + n → va_at D cl (a, f a) H) : va_P D cl (px_W lo n f) H := by
  intro k q hk
  obtain ⟨h1, rfl⟩ := px_inv hk
  exact h _ (by omega) (by omega)
theorem px_Pat {D : va_G} {cl : List vw_C} {lo n : Nat} {f : Nat → va_E} {H : Heap} (h : va_P D cl (px_W lo n f) H) {a : Nat} (ha : lo ≤ a ∧ a < lo + n) : va_at D cl (a, f a) H := h _ _ (px_get ha)
theorem px_Pcongr {D : va_G} {cl : List vw_C} {lo n : Nat} {f g : Nat → va_E} {H : Heap} (h : va_P D cl (px_W lo n f) H) (e : ∀ a, lo ≤ a → a < lo + n → f a = g a) : va_P D cl (px_W lo n g) H :=
  px_Pof fun a h1 h2 => by rw [← e a h1 h2]; exact px_Pat h ⟨h1, h2⟩
theorem px_upsame {f : Nat → va_E} {a : Nat} {e : va_E} (h : f a = e) : va_up f a e = f := by
  funext q
  by_cases hq : q = a
  · subst hq; rw [va_up_self]; exact h.symm
  · rw [va_up_ne f e hq]
/-- what holds inside a method of ours: the machine, its code, the tables' words -/
def CX (p : Program) (s : State) (m : MethodId) (args : Array Value) (meth : Method) (c : Code) (own : String) (cc : ByteArray) (nl : Nat) (ret : Option FieldType) : Prop :=
  p.tables.exec = Jvm.exec ∧ c.code = cc ∧ c.maxLocals = nl ∧ s.vm.findClass own = some m.cls ∧ (∀ w ∈ Wd, w.before args s = true) ∧ meth.locks = false ∧ meth.sig.returnType = ret
/-- the heap now, in a method that began at s: the pool holds f; what is written lies in A -/
def HX (D : va_G) (t : Nat → ClassId) (lo n : Nat) (f : Nat → va_E) (A : Nat → Prop) (s : State) (H : Heap) (locs : List Loc) : Prop :=
  va_K D vwCl (px_T t) s ∧ va_P D vwCl (px_W lo n f) H ∧ ((∀ q, lo ≤ q → q < lo + n → A q) ∧ SX t A s) ∧ va_S A s.heap H locs
abbrev px_ws (y : MethodName) (cc : ByteArray) (nl : Nat) (ret : Option FieldType) : List Cond := Cond.code y cc nl ret :: Wd
abbrev px_rm (k : Nat) : Room := { frames := k, cells := 0, slots := 0, locals := 60 * k }
def PcM (D : va_G) (t : Nat → ClassId) (lo n : Nat) (f : Nat → va_E) (av : List Value) : Array Value → State → Prop := fun v U => v = av.toArray ∧ va_K D vwCl (px_T t) U ∧ va_P D vwCl (px_W lo n f) U.heap ∧ SX t (px_A lo n) U
def QcM (D : va_G) (lo n : Nat) (f' : Nat → va_E) (o : Option Value) : Array Value → State → Outcome → State → Prop := fun _ st oc tt => oc = .returned o ∧ va_P D vwCl (px_W lo n f') tt.heap ∧ va_F (px_A lo n) st tt
/-- a method's contract: from a pool f to a pool f', the answer o, k frames deep -/
abbrev MetM (l : Launch) (y : MethodName) (cc : ByteArray) (nl : Nat) (ret : Option FieldType) (k : Nat) (D : va_G) (t : Nat → ClassId) (lo n : Nat) (f : Nat → va_E) (av : List Value) (f' : Nat → va_E) (o : Option Value) : Prop :=
  Met l y (px_ws y cc nl ret) (px_rm k) (PcM D t lo n f av) (QcM D lo n f' o) 0 0 (px_A lo n)
section PXM
variable {l : Launch} {y : MethodName} {cc : ByteArray} {nl : Nat} {ret : Option FieldType} {k : Nat} {D : va_G} {t : Nat → ClassId} {lo n : Nat} {f f' : Nat → va_E} {av : List Value} {o : Option Value}
theorem MetM.start (hy : plainName y.cls = true) (hn : (lg_sl av).length ≤ nl)
    (body : ∀ (p : Program) (e : Env) (s : State) (m : MethodId) (below : List Frame) (meth : Method) (c : Code), CX p s m av.toArray meth c y.cls cc nl ret → HX D t lo n f (px_A lo n) s s.heap [] → ∀ ls : Array Slot, lv_has ls nl (lv_args 0 av) →
      W p l e (px_rm k) s m av.toArray below meth c s.heap [] 0 0 (MQ below (QcM D lo n f' o) av.toArray s 0 0 (px_A lo n)) (F0 m 0 ls [])) : MetM l y cc nl ret k D t lo n f av f' o := by
  refine Met.ofW (cc := cc) (maxL := nl) (ret := ret) hy rfl ?_
  intro p e s m args below meth c s₁ B hml hv
  obtain ⟨rfl, hK, hP, hSX⟩ := hv
  have hts := atoms_spec (ws := px_ws y cc nl ret) B.pre
  have hl := lv_entry av (n := nl) hn
  rw [lg_entry_eq]
  exact body p e s m below meth c ⟨B.exec, B.bytes, hml, findClass_of_methodNamed B.named, fun w h => hts w (List.mem_cons_of_mem _ h), B.notSynchronized, B.returns⟩ ⟨hK, hP, ⟨fun q h1 h2 => ⟨h1, h2⟩, hSX⟩, va_S.rf⟩ _ hl
end PXM
section PXR
variable {p : Program} {l : Launch} {e : Env} {R : Room} {s : State} {m : MethodId} {args : Array Value} {below : List Frame} {meth : Method} {c : Code} {H : Heap} {locs : List Loc} {cells slots : Nat} {Q : State → Prop}
variable {cc : ByteArray} {own : String} {nl : Nat} {ret : Option FieldType} {pc : Nat} {ls : Array Slot} {rest : List Value} {D : va_G} {t : Nat → ClassId} {lo n : Nat} {f : Nat → va_E} {A : Nat → Prop} {a : Nat}
theorem HX.sub (h : HX D t lo n f A s H locs) {lo' n' : Nat} (h1 : lo ≤ lo') (h2 : lo' + n' ≤ lo + n) : HX D t lo' n' f A s H locs :=
  ⟨h.1, px_Pof fun a q1 q2 => px_Pat h.2.1 ⟨by omega, by omega⟩, ⟨fun q q1 q2 => h.2.2.1.1 q (by omega) (by omega), h.2.2.1.2⟩, h.2.2.2⟩
theorem HX.congr {g : Nat → va_E} (h : HX D t lo n f A s H locs) (e : ∀ a, lo ≤ a → a < lo + n → f a = g a) : HX D t lo n g A s H locs :=
  ⟨h.1, px_Pcongr h.2.1 e, h.2.2.1, h.2.2.2⟩
/-- another pool that a call did not touch -/
theorem HX.kept {lo2 n2 : Nat} {g : Nat → va_E} {H1 : Heap} {locs1 : List Loc} (h : HX D t lo2 n2 g A s H locs) (hS : va_S A s.heap H1 locs1) (hk : ∀ q : Nat, q < H.size → ¬ px_A lo n q → H1[q]? = H[q]?) (hd : lo + n ≤ lo2 ∨ lo2 + n2 ≤ lo) : HX D t lo2 n2 g A s H1 locs1 :=
  ⟨h.1, px_Pof fun a q1 q2 => va_at.kept (px_Pat h.2.1 ⟨q1, q2⟩) (hk a (va_at.lt (px_Pat h.2.1 ⟨q1, q2⟩)) (fun z => by obtain ⟨z1, z2⟩ := z; omega)), h.2.2.1, hS⟩
theorem px_getf (X : CX p s m args meth c own cc nl ret) (h : HX D t lo n f A s H locs) {ref C : String} {T : u_T} {N ci index : Nat} {fs : List Value} (ha : px_at lo n f a (.inr (ci, fs))) (hc : vwCl[ci]? = some (C, T, N)) (hin : ∀ w ∈ u_ws C T N, w ∈ Wd) (k : Nat) (hk : k < N) (hlink : Cond.fieldLink own index ref (T k).2.1 (T k).2.2.1 ∈ Wd) (hsame : (T k).1 = ref) {v : Value} (hv : fs[k]? = some v) (hdg : decode cc pc = .ok (.getfield index, 3))
    (kk : W p l e R s m args below meth c H locs cells slots Q (F0 m (pc + 3) ls (v :: rest))) : W p l e R s m args below meth c H locs cells slots Q (F0 m pc ls (.ref a :: rest)) :=
  va_get (D := D) (cl := vwCl) (ws := px_W lo n f) X.1 X.2.1 X.2.2.2.2.1 hin X.2.2.2.1 h.1 h.2.1 (a - lo) (by rw [px_get ha.1, ha.2]) hc k hk (X.2.2.2.2.1 _ hlink) (fun x hx => by rw [← hsame]; exact hx) hv hdg kk
theorem px_putf (X : CX p s m args meth c own cc nl ret) (h : HX D t lo n f A s H locs) {ref C : String} {T : u_T} {N ci index : Nat} {fs : List Value} (ha : px_at lo n f a (.inr (ci, fs))) (hc : vwCl[ci]? = some (C, T, N)) (hin : ∀ w ∈ u_ws C T N, w ∈ Wd) {ty0 : Nat → FieldType} (hty : ∀ k, k < N → parseFieldDescriptor (T k).2.2.1 = some (ty0 k)) (hnm : ∀ a, a < N → ∀ b, b < N → a ≠ b → (T a).2.1 ≠ (T b).2.1) (k : Nat) (hk : k < N) (hlink : Cond.fieldLink own index ref (T k).2.1 (T k).2.2.1 ∈ Wd) (hsame : (T k).1 = ref) (hfin : (T k).2.2.2 = false) {v : Value} (hn : narrow (ty0 k) v = v) (hfit : fits (ty0 k) v = true) (hl : k < fs.length) (hdg : decode cc pc = .ok (.putfield index, 3))
    (kk : ∀ (H1 : Heap) (locs1 : List Loc), HX D t lo n (va_up f a (.inr (ci, fs.set k v))) A s H1 locs1 → W p l e R s m args below meth c H1 locs1 cells slots Q (F0 m (pc + 3) ls rest)) : W p l e R s m args below meth c H locs cells slots Q (F0 m pc ls (v :: .ref a :: rest)) :=
  va_put (D := D) (cl := vwCl) (ws := px_W lo n f) X.1 X.2.1 X.2.2.2.2.1 hin ty0 hty hnm X.2.2.2.1 h.1 h.2.1 (px_D h.2.2.1.1) h.2.2.2 (a - lo) (by rw [px_get ha.1, ha.2]) hc k hk (X.2.2.2.2.1 _ hlink) (fun x hx => by rw [← hsame]; exact hx) hfin (hty k hk) hn hfit hl hdg
    (fun H1 locs1 hP _ hS => kk H1 locs1 ⟨h.1, by rw [px_set ha.1] at hP; exact hP, h.2.2.1, hS⟩)
/-- the same value again: the picture stays -/
theorem px_puts (X : CX p s m args meth c own cc nl ret) (h : HX D t lo n f A s H locs) {ref C : String} {T : u_T} {N ci index : Nat} {fs : List Value} (ha : px_at lo n f a (.inr (ci, fs))) (hc : vwCl[ci]? = some (C, T, N)) (hin : ∀ w ∈ u_ws C T N, w ∈ Wd) {ty0 : Nat → FieldType} (hty : ∀ k, k < N → parseFieldDescriptor (T k).2.2.1 = some (ty0 k)) (hnm : ∀ a, a < N → ∀ b, b < N → a ≠ b → (T a).2.1 ≠ (T b).2.1) (k : Nat) (hk : k < N) (hlink : Cond.fieldLink own index ref (T k).2.1 (T k).2.2.1 ∈ Wd) (hsame : (T k).1 = ref) (hfin : (T k).2.2.2 = false) {v : Value} (hn : narrow (ty0 k) v = v) (hfit : fits (ty0 k) v = true) (hv : fs[k]? = some v) (hdg : decode cc pc = .ok (.putfield index, 3))
    (kk : ∀ (H1 : Heap) (locs1 : List Loc), HX D t lo n f A s H1 locs1 → W p l e R s m args below meth c H1 locs1 cells slots Q (F0 m (pc + 3) ls rest)) : W p l e R s m args below meth c H locs cells slots Q (F0 m pc ls (v :: .ref a :: rest)) := by
  have hl : k < fs.length := (List.getElem?_eq_some_iff.mp hv).1
  have hfs : fs.set k v = fs := by
    apply List.ext_getElem?
    intro i
    rw [List.getElem?_set]
    by_cases hi : k = i
    · subst hi; rw [if_pos rfl, if_pos hl, hv]
    · rw [if_neg hi]
  refine px_putf X h ha hc hin hty hnm k hk hlink hsame hfin hn hfit hl hdg (fun H1 locs1 h1 => kk H1 locs1 ?_)
  rw [hfs, px_upsame ha.2] at h1
  exact h1
theorem px_alen (X : CX p s m args meth c own cc nl ret) (h : HX D t lo n f A s H locs) (t0 : Nat) {cA : ClassId} {x : vp_A} {ty : FieldType} (ha : px_at lo n f a (.inl (cA, x))) (ht : (px_T t)[t0]? = some (cA, ty)) {v : Int32} (hv : Int32.ofNat x.1 = v) (hdg : decode cc pc = .ok (.arraylength, 1))
    (kk : W p l e R s m args below meth c H locs cells slots Q (F0 m (pc + 1) ls (.int v :: rest))) : W p l e R s m args below meth c H locs cells slots Q (F0 m pc ls (.ref a :: rest)) :=
  va_alen (D := D) (cl := vwCl) (ws := px_W lo n f) X.1 X.2.1 h.1 h.2.1 (a - lo) t0 (by rw [px_get ha.1, ha.2]) ht hv hdg kk
theorem px_iald (X : CX p s m args meth c own cc nl ret) (h : HX D t lo n f A s H locs) {z : Nat} {g : Nat → Int32} (ha : px_at lo n f a (.inl (t 0, z, .inl g))) {i : Int32} (hin : vp_in i z) (hdg : decode cc pc = .ok (.iaload, 1))
    (kk : W p l e R s m args below meth c H locs cells slots Q (F0 m (pc + 1) ls (.int (g i.toNatClampNeg) :: rest))) : W p l e R s m args below meth c H locs cells slots Q (F0 m pc ls (.int i :: .ref a :: rest)) :=
  va_iald (D := D) (cl := vwCl) (ws := px_W lo n f) X.1 X.2.1 h.1 h.2.1 (a - lo) 0 (by rw [px_get ha.1, ha.2]) rfl hin hdg kk
theorem px_bald (X : CX p s m args meth c own cc nl ret) (h : HX D t lo n f A s H locs) {z : Nat} {g : Nat → Int32} (ha : px_at lo n f a (.inl (t 2, z, .inl g))) {i : Int32} (hin : vp_in i z) (hdg : decode cc pc = .ok (.baload, 1))
    (kk : W p l e R s m args below meth c H locs cells slots Q (F0 m (pc + 1) ls (.int (g i.toNatClampNeg) :: rest))) : W p l e R s m args below meth c H locs cells slots Q (F0 m pc ls (.int i :: .ref a :: rest)) :=
  va_bald (D := D) (cl := vwCl) (ws := px_W lo n f) X.1 X.2.1 h.1 h.2.1 (a - lo) 2 (by rw [px_get ha.1, ha.2]) rfl hin hdg kk
theorem px_zald (X : CX p s m args meth c own cc nl ret) (h : HX D t lo n f A s H locs) {z : Nat} {g : Nat → Int32} (ha : px_at lo n f a (.inl (t 3, z, .inl g))) {i : Int32} (hin : vp_in i z) (hdg : decode cc pc = .ok (.baload, 1))
    (kk : W p l e R s m args below meth c H locs cells slots Q (F0 m (pc + 1) ls (.int (g i.toNatClampNeg) :: rest))) : W p l e R s m args below meth c H locs cells slots Q (F0 m pc ls (.int i :: .ref a :: rest)) :=
  va_zald (D := D) (cl := vwCl) (ws := px_W lo n f) X.1 X.2.1 h.1 h.2.1 (a - lo) 3 (by rw [px_get ha.1, ha.2]) rfl hin hdg kk
theorem px_lald (X : CX p s m args meth c own cc nl ret) (h : HX D t lo n f A s H locs) {z : Nat} {g : Nat → Int64} (ha : px_at lo n f a (.inl (t 1, z, .inr (.inl g)))) {i : Int32} (hin : vp_in i z) (hdg : decode cc pc = .ok (.laload, 1))
    (kk : W p l e R s m args below meth c H locs cells slots Q (F0 m (pc + 1) ls (.long (g i.toNatClampNeg) :: rest))) : W p l e R s m args below meth c H locs cells slots Q (F0 m pc ls (.int i :: .ref a :: rest)) :=
  va_lald (D := D) (cl := vwCl) (ws := px_W lo n f) X.1 X.2.1 h.1 h.2.1 (a - lo) 1 (by rw [px_get ha.1, ha.2]) rfl hin hdg kk
theorem px_aald (X : CX p s m args meth c own cc nl ret) (h : HX D t lo n f A s H locs) (t0 : Nat) {cA : ClassId} {C : String} {z : Nat} {g : Nat → Option Nat} (ha : px_at lo n f a (.inl (cA, z, .inr (.inr (.inr (.inr g)))))) (ht : (px_T t)[t0]? = some (cA, .object C)) {i : Int32} (hin : vp_in i z) {b : Nat} (hb : g i.toNatClampNeg = some b) (hdg : decode cc pc = .ok (.aaload, 1))
    (kk : W p l e R s m args below meth c H locs cells slots Q (F0 m (pc + 1) ls (.ref b :: rest))) : W p l e R s m args below meth c H locs cells slots Q (F0 m pc ls (.int i :: .ref a :: rest)) :=
  va_aldq (D := D) (cl := vwCl) (ws := px_W lo n f) X.1 X.2.1 h.1 h.2.1 (a - lo) t0 (by rw [px_get ha.1, ha.2]) ht hin hdg (by rw [hb]; exact kk)
theorem px_iast (X : CX p s m args meth c own cc nl ret) (h : HX D t lo n f A s H locs) {z : Nat} {g : Nat → Int32} (ha : px_at lo n f a (.inl (t 0, z, .inl g))) {i x : Int32} (hin : vp_in i z) (hdg : decode cc pc = .ok (.iastore, 1))
    (kk : ∀ (H1 : Heap) (locs1 : List Loc), HX D t lo n (va_up f a (.inl (t 0, z, .inl (upd g i.toNatClampNeg x)))) A s H1 locs1 → W p l e R s m args below meth c H1 locs1 cells slots Q (F0 m (pc + 1) ls rest)) : W p l e R s m args below meth c H locs cells slots Q (F0 m pc ls (.int x :: .int i :: .ref a :: rest)) :=
  va_iast (D := D) (cl := vwCl) (ws := px_W lo n f) X.1 X.2.1 h.1 h.2.1 (px_D h.2.2.1.1) h.2.2.2 (a - lo) 0 (by rw [px_get ha.1, ha.2]) rfl hin hdg
    (fun H1 locs1 hP _ hS => kk H1 locs1 ⟨h.1, by rw [px_set ha.1] at hP; exact hP, h.2.2.1, hS⟩)
theorem px_bast (X : CX p s m args meth c own cc nl ret) (h : HX D t lo n f A s H locs) {z : Nat} {g : Nat → Int32} (ha : px_at lo n f a (.inl (t 2, z, .inl g))) {i x : Int32} (hin : vp_in i z) (hdg : decode cc pc = .ok (.bastore, 1))
    (kk : ∀ (H1 : Heap) (locs1 : List Loc), HX D t lo n (va_up f a (.inl (t 2, z, .inl (upd g i.toNatClampNeg (vp_nar .byte x))))) A s H1 locs1 → W p l e R s m args below meth c H1 locs1 cells slots Q (F0 m (pc + 1) ls rest)) : W p l e R s m args below meth c H locs cells slots Q (F0 m pc ls (.int x :: .int i :: .ref a :: rest)) :=
  va_bast (D := D) (cl := vwCl) (ws := px_W lo n f) X.1 X.2.1 h.1 h.2.1 (px_D h.2.2.1.1) h.2.2.2 (a - lo) 2 (by rw [px_get ha.1, ha.2]) rfl hin hdg
    (fun H1 locs1 hP _ hS => kk H1 locs1 ⟨h.1, by rw [px_set ha.1] at hP; exact hP, h.2.2.1, hS⟩)
theorem px_zast (X : CX p s m args meth c own cc nl ret) (h : HX D t lo n f A s H locs) {z : Nat} {g : Nat → Int32} (ha : px_at lo n f a (.inl (t 3, z, .inl g))) {i x : Int32} (hin : vp_in i z) (hdg : decode cc pc = .ok (.bastore, 1))
    (kk : ∀ (H1 : Heap) (locs1 : List Loc) (g' : Nat → Int32), HX D t lo n (va_up f a (.inl (t 3, z, .inl g'))) A s H1 locs1 → W p l e R s m args below meth c H1 locs1 cells slots Q (F0 m (pc + 1) ls rest)) : W p l e R s m args below meth c H locs cells slots Q (F0 m pc ls (.int x :: .int i :: .ref a :: rest)) :=
  va_zast (D := D) (cl := vwCl) (ws := px_W lo n f) X.1 X.2.1 h.1 h.2.1 (px_D h.2.2.1.1) h.2.2.2 (a - lo) 3 (by rw [px_get ha.1, ha.2]) rfl hin hdg
    (fun H1 locs1 hP _ hS => kk H1 locs1 _ ⟨h.1, by rw [px_set ha.1] at hP; exact hP, h.2.2.1, hS⟩)
theorem px_last (X : CX p s m args meth c own cc nl ret) (h : HX D t lo n f A s H locs) {z : Nat} {g : Nat → Int64} (ha : px_at lo n f a (.inl (t 1, z, .inr (.inl g)))) {i : Int32} {x : Int64} (hin : vp_in i z) (hdg : decode cc pc = .ok (.lastore, 1))
    (kk : ∀ (H1 : Heap) (locs1 : List Loc), HX D t lo n (va_up f a (.inl (t 1, z, .inr (.inl (vp_updL g i.toNatClampNeg x))))) A s H1 locs1 → W p l e R s m args below meth c H1 locs1 cells slots Q (F0 m (pc + 1) ls rest)) : W p l e R s m args below meth c H locs cells slots Q (F0 m pc ls (.long x :: .int i :: .ref a :: rest)) :=
  va_last (D := D) (cl := vwCl) (ws := px_W lo n f) X.1 X.2.1 h.1 h.2.1 (px_D h.2.2.1.1) h.2.2.2 (a - lo) 1 (by rw [px_get ha.1, ha.2]) rfl hin hdg
    (fun H1 locs1 hP _ hS => kk H1 locs1 ⟨h.1, by rw [px_set ha.1] at hP; exact hP, h.2.2.1, hS⟩)
end PXR
