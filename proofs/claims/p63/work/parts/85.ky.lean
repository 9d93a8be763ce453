/-! makings: what is proved of a step -/
def KFT (b : Nat) (ty : FieldType) : Prop := match b with
  | 0 => ty = .int
  | 1 => ty = .boolean
  | 2 => ty = .long
  | 3 => (∃ C, ty = .object C) ∨ ∃ u, ty = .array u
  | _ => True
def KF1 (own : String) (i : Nat) (r : Nat × Nat × Nat × Bool) : Prop := ∃ (C : String) (T : u_T) (N : Nat) (ty0 : Nat → FieldType), vwCl[r.1]? = some (C, T, N) ∧ (∀ w ∈ u_ws C T N, w ∈ Wd) ∧ (∀ k, k < N → parseFieldDescriptor (T k).2.2.1 = some (ty0 k)) ∧ (∀ a, a < N → ∀ b, b < N → a ≠ b → (T a).2.1 ≠ (T b).2.1) ∧ r.2.1 < N ∧ Cond.fieldLink own i (T r.2.1).1 (T r.2.1).2.1 (T r.2.1).2.2.1 ∈ Wd ∧ (T r.2.1).2.2.2 = r.2.2.2 ∧ (r.2.2.2 = true → r.2.2.1 ≠ 4 → (T r.2.1).1 = own) ∧ KFT r.2.2.1 (ty0 r.2.1)
def KN1 (own : String) (i : Nat) (r : Nat × List KV) : Prop := ∃ (C : String) (T : u_T) (N : Nat) (ty : Nat → FieldType), (∀ w ∈ u_ws C T N, w ∈ Wd) ∧ (∀ k, k < N → parseFieldDescriptor (T k).2.2.1 = some (ty k)) ∧ Cond.classLink own i C ∈ Wd ∧ Cond.instantiable C N ∈ Wd ∧ Cond.initialized C ∈ Wd ∧ vwCl[r.1]? = some (C, T, N) ∧ N = r.2.length ∧ ∀ (lo : Nat) (ext : List Nat) (j : Nat), j < N → defaultValue (ty j) = vp_V (r.2.map (kval lo ext)) j
def KA1 (own : String) (i tt : Nat) : Prop := (tt = 4 ∧ Cond.classLink own i "BellMoney$State" ∈ Wd) ∨ (tt = 5 ∧ Cond.classLink own i "BellMoney$World" ∈ Wd) ∨ (tt = 6 ∧ Cond.classLink own i "BellMoney$Row" ∈ Wd)
def KO1 (own : String) (i : Nat) : Prop := Cond.methodLink own i Lib.objectInit ∈ Wd ∧ Cond.instanceMethod Lib.objectInit ∈ Wd ∧ Cond.code Lib.objectInit ⟨#[0xb1]⟩ 1 none ∈ Wd
def KHO (l : Launch) (D : va_G) (t : Nat → ClassId) (y : MethodName) (cy : ByteArray) (ny na : Nat) (M : KM) : Prop := ∀ (b : Nat) (ext : List Nat), ext.length = na → MetN l y cy ny M.2.2.2.1 M.1 M.2.1 D t b (kcell t b ext (.inl (M.2.2.1, M.2.2.2.2.1))) (.ref b :: ext.map .ref) (M.2.2.2.2.2.map (kcell t b ext))
def KC1 (l : Launch) (D : va_G) (t : Nat → ClassId) (own : String) (i : Nat) (r : Bool × Nat × KM) : Prop := ∃ (y : MethodName) (cy : ByteArray) (ny : Nat), (if r.1 = true then Cond.methodLinkNest own i y "BellMoney" ∈ px_nest else Cond.methodLink own i y ∈ Wd) ∧ Cond.instanceMethod y ∈ Wd ∧ Cond.initialized y.cls ∈ Wd ∧ Cond.code y cy ny none ∈ Wd ∧ y.name = "<init>" ∧ (y.cls ≠ "java/lang/invoke/MethodHandle" ∧ y.cls ≠ "java/lang/invoke/VarHandle" ∧ (parseMethodDescriptor y.desc).map (fun d => d.parameters.length) = some r.2.1) ∧ ny + 19 ≤ 60 ∧ KHO l D t y cy ny r.2.1 r.2.2
def KTok (l : Launch) (D : va_G) (t : Nat → ClassId) (own : String) (T : KT) : Prop := (∀ i r, klook T.1 i = some r → KF1 own i r) ∧ (∀ i r, klook T.2.1 i = some r → KN1 own i r) ∧ (∀ i tt, klook T.2.2.1 i = some tt → KA1 own i tt) ∧ (∀ i, T.2.2.2.1.contains i = true → KO1 own i) ∧ (∀ i r, klook T.2.2.2.2 i = some r → KC1 l D t own i r)
theorem klook_nil {α : Type} {P : Nat → α → Prop} : ∀ i r, klook ([] : List (Nat × α)) i = some r → P i r := fun i r h => by cases h
theorem klook_cons {α : Type} {P : Nat → α → Prop} {j : Nat} {a : α} {L : List (Nat × α)} (h : P j a) (h2 : ∀ i r, klook L i = some r → P i r) : ∀ i r, klook ((j, a) :: L) i = some r → P i r := fun i r q => by
  simp only [klook] at q
  by_cases c : j = i
  · rw [if_pos c] at q
    cases q
    subst c
    exact h
  · rw [if_neg c] at q
    exact h2 i r q
def SK (D : va_G) (t : Nat → ClassId) (lo : Nat) (ext : List Nat) (s : State) (nl : Nat) (x : KX) (H : Heap) (locs : List Loc) (ls : Array Slot) : Prop := NL D t lo (x.2.1.map (kcell t lo ext)) s H locs ∧ lv_has ls nl (x.2.2.1.map (fun q => (q.1, kval lo ext q.2)))
def GOK (D : va_G) (t : Nat → ClassId) (lo : Nat) (ext : List Nat) (nl : Nat) (p : Program) (l : Launch) (e : Env) (R : Room) (s : State) (m : MethodId) (args : Array Value) (below : List Frame) (meth : Method) (c : Code) (Q : State → Prop) (y : KX) : Prop :=
  ∀ (H : Heap) (locs : List Loc) (ls : Array Slot), SK D t lo ext s nl y H locs ls → W p l e R s m args below meth c H locs y.2.2.2.2.1 y.2.2.2.2.2 Q (F0 m y.1 ls (y.2.2.2.1.map (kval lo ext)))
theorem klook_at {lo : Nat} {ext : List Nat} {i : Nat} {v : KV} : ∀ {L : List (Nat × KV)}, klook L i = some v → ∃ k : Nat, (L.map (fun q => (q.1, kval lo ext q.2)))[k]? = some (i, kval lo ext v)
  | (j, x) :: L, h => by
    simp only [klook] at h
    by_cases c : j = i
    · rw [if_pos c] at h
      cases h
      subst c
      exact ⟨0, rfl⟩
    · rw [if_neg c] at h
      obtain ⟨k, hk⟩ := klook_at (lo := lo) (ext := ext) h
      exact ⟨k + 1, by simpa using hk⟩
theorem kput_map {lo : Nat} {ext : List Nat} {L : List (Nat × KV)} {i : Nat} {v : KV} : (i, kval lo ext v) :: (L.map (fun q => (q.1, kval lo ext q.2))).filter (fun q => !(q.1 == i) && !(q.1 + 1 == i && q.2.category == 2)) = (kput L i v).map (fun q => (q.1, kval lo ext q.2)) := by
  simp only [kput, List.map_cons, List.filter_map]
  congr 2
  apply List.filter_congr
  intro q _
  simp only [Function.comp, kcat_ok]
theorem kfit_ok {lo : Nat} {ext : List Nat} {b : Nat} {v : KV} {ty : FieldType} (h : kfit b v = true) (ht : KFT b ty) : narrow ty (kval lo ext v) = kval lo ext v ∧ fits ty (kval lo ext v) = true := by
  match b, v, h with
  | 0, .inl n, h =>
    have : ty = .int := ht
    subst this
    exact ⟨rfl, rfl⟩
  | 1, .inl n, h =>
    have : ty = .boolean := ht
    subst this
    simp only [kfit, Bool.or_eq_true, beq_iff_eq] at h
    rcases h with rfl | rfl
    · exact ⟨rfl, rfl⟩
    · exact ⟨rfl, rfl⟩
  | 2, .inr (.inl n), h =>
    have : ty = .long := ht
    subst this
    exact ⟨rfl, rfl⟩
  | 3, .inr (.inr o), h =>
    rcases ht with ⟨C, rfl⟩ | ⟨u, rfl⟩
    · cases o <;> exact ⟨rfl, rfl⟩
    · cases o <;> exact ⟨rfl, rfl⟩
theorem of32 {n : Int} (h1 : 0 ≤ n) (h2 : n ≤ 60000) : ¬ Int32.ofInt n < 0 ∧ (Int32.ofInt n).toNatClampNeg = n.toNat ∧ (Int32.ofInt n).toInt = n := by
  have e : (Int32.ofInt n).toInt = n := Int32.toInt_ofInt_of_le (by omega) (by omega)
  refine ⟨fun q => ?_, ?_, e⟩
  · have := Int32.lt_iff_toInt_lt.mp q
    have z : (0 : Int32).toInt = 0 := rfl
    omega
  · show (Int32.ofInt n).toInt.toNat = n.toNat
    rw [e]
theorem ksh_ok {lo b0 : Nat} {ext : List Nat} {as : List KV} {r q : Nat ⊕ Nat} (h : ksh b0 as r = some q) : kad lo ext q = kad (lo + b0) (as.map (fun v => match v with | .inr (.inr (some w)) => kad lo ext w | _ => 0)) r := by
  match r, h with
  | .inl i, h =>
    simp only [ksh, Option.some.injEq] at h
    subst h
    simp only [kad]
    omega
  | .inr j, h =>
    simp only [ksh] at h
    cases ha : as[j]? with
    | none => rw [ha] at h; cases h
    | some v =>
      rw [ha] at h
      match v, h, ha with
      | .inl _, h, ha => cases h
      | .inr (.inl _), h, ha => cases h
      | .inr (.inr none), h, ha => cases h
      | .inr (.inr (some w)), h, ha =>
        simp only [Option.some.injEq] at h
        subst h
        simp only [kad, List.getD_eq_getElem?_getD, List.getElem?_map, ha, Option.map_some, Option.getD_some]
abbrev kaddr (lo : Nat) (ext : List Nat) (as : List KV) : List Nat := as.map (fun v => match v with | .inr (.inr (some w)) => kad lo ext w | _ => 0)
theorem kshv_ok {lo b0 : Nat} {ext : List Nat} {as : List KV} {v q : KV} (h : kshv b0 as v = some q) : kval lo ext q = kval (lo + b0) (kaddr lo ext as) v := by
  match v, h with
  | .inl n, h => simp only [kshv, Option.some.injEq] at h; subst h; rfl
  | .inr (.inl n), h => simp only [kshv, Option.some.injEq] at h; subst h; rfl
  | .inr (.inr none), h => simp only [kshv, Option.some.injEq] at h; subst h; rfl
  | .inr (.inr (some r)), h =>
    simp only [kshv] at h
    cases h1 : ksh b0 as r with
    | none => rw [h1] at h; cases h
    | some w =>
      rw [h1] at h
      simp only [Option.some.injEq] at h
      subst h
      simp only [kval, ksh_ok (lo := lo) (ext := ext) h1]
theorem kshl_ok {α β γ : Type} {f : α → Option β} {F : β → γ} {G : α → γ} (hf : ∀ a b, f a = some b → F b = G a) : ∀ {l : List α} {r : List β}, kshl f l = some r → r.map F = l.map G
  | [], r, h => by simp only [kshl, Option.some.injEq] at h; subst h; rfl
  | a :: l, r, h => by
    simp only [kshl] at h
    cases h1 : f a with
    | none => rw [h1] at h; cases h
    | some b =>
      cases h2 : kshl f l with
      | none => rw [h1, h2] at h; cases h
      | some r' =>
        rw [h1, h2] at h
        simp only [Option.some.injEq] at h
        subst h
        simp only [List.map_cons, hf a b h1, kshl_ok hf h2]
theorem kR_eq {lo lo' : Nat} {ext ext' : List Nat} : ∀ {rs rs' : List (Nat × (Nat ⊕ Nat))}, rs'.map (fun q => (q.1, kad lo ext q.2)) = rs.map (fun q => (q.1, kad lo' ext' q.2)) → kR lo ext rs' = kR lo' ext' rs
  | [], [], _ => rfl
  | [], _ :: _, h => by simp at h
  | _ :: _, [], h => by simp at h
  | (i, x) :: rs, (j, y) :: rs', h => by
    simp only [List.map_cons, List.cons.injEq, Prod.mk.injEq] at h
    obtain ⟨⟨rfl, h1⟩, h2⟩ := h
    simp only [kR, h1, kR_eq h2]
theorem kshc_ok {t : Nat → ClassId} {lo b0 : Nat} {ext : List Nat} {as : List KV} {x y : KC} (h : kshc b0 as x = some y) : kcell t lo ext y = kcell t (lo + b0) (kaddr lo ext as) x := by
  match x, h with
  | .inl (ci, fs), h =>
    simp only [kshc] at h
    cases h1 : kshl (kshv b0 as) fs with
    | none => rw [h1] at h; cases h
    | some r =>
      rw [h1] at h
      simp only [Option.some.injEq] at h
      subst h
      simp only [kcell, kshl_ok (F := kval lo ext) (G := kval (lo + b0) (kaddr lo ext as)) (fun a b hab => kshv_ok hab) h1]
  | .inr (tt, z, .inl us), h =>
    simp only [kshc, Option.some.injEq] at h
    subst h
    rfl
  | .inr (tt, z, .inr rs), h =>
    simp only [kshc] at h
    cases h1 : kshl (fun q : Nat × (Nat ⊕ Nat) => (ksh b0 as q.2).map (fun w => (q.1, w))) rs with
    | none => rw [h1] at h; cases h
    | some r =>
      rw [h1] at h
      simp only [Option.some.injEq] at h
      subst h
      have e := kshl_ok (F := fun q : Nat × (Nat ⊕ Nat) => (q.1, kad lo ext q.2)) (G := fun q : Nat × (Nat ⊕ Nat) => (q.1, kad (lo + b0) (kaddr lo ext as) q.2)) (fun a b hab => by
        cases h2 : ksh b0 as a.2 with
        | none => rw [h2] at hab; cases hab
        | some w =>
          rw [h2] at hab
          simp only [Option.map_some, Option.some.injEq] at hab
          subst hab
          simp only [ksh_ok (lo := lo) (ext := ext) h2]) h1
      simp only [kcell, kR_eq e]
theorem kpop_ok : ∀ (n : Nat) (acc S as S' : List KV), kpop n acc S = some (as, S') → ∃ ws, as = ws ++ acc ∧ S = ws.reverse ++ S' ∧ ws.length = n
  | 0, acc, S, as, S', h => by
    simp only [kpop, Option.some.injEq, Prod.mk.injEq] at h
    obtain ⟨rfl, rfl⟩ := h
    exact ⟨[], rfl, rfl, rfl⟩
  | n + 1, acc, [], as, S', h => by simp [kpop] at h
  | n + 1, acc, x :: S, as, S', h => by
    obtain ⟨ws, a, b, c⟩ := kpop_ok n (x :: acc) S as S' (by simpa [kpop] using h)
    exact ⟨ws ++ [x], by rw [a]; simp, by rw [b]; simp, by simp [c]⟩
theorem kref_map {lo : Nat} {ext : List Nat} : ∀ {as : List KV}, as.all kref = true → as.map (kval lo ext) = (kaddr lo ext as).map Value.ref
  | [], _ => rfl
  | v :: as, h => by
    simp only [List.all_cons, Bool.and_eq_true] at h
    match v, h with
    | .inr (.inr (some r)), h =>
      simp only [kaddr, List.map_cons, kval]
      congr 1
      exact kref_map h.2
theorem kcell_at {t : Nat → ClassId} {lo : Nat} {ext : List Nat} {es : List KC} {o : Nat} {x : KC} (h : es[o]? = some x) : (es.map (kcell t lo ext))[o]? = some (kcell t lo ext x) := by
  rw [List.getElem?_map, h]; rfl
theorem kcat_sum {lo : Nat} {ext : List Nat} {S : List KV} : ((S.map (kval lo ext)).map fun v => v.category).sum = (S.map kcat).sum := by
  rw [List.map_map]
  congr 1
  apply List.map_congr_left
  intro v _
  exact kcat_ok
