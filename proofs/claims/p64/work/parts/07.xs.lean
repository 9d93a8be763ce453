/-! ABSTRACT STATES. A value: an int number, a long number, a reference of a kind, or how two longs compare. -/
abbrev XV : Type := (XN ⊕ XN) ⊕ (Nat ⊕ (XN × XN))
/-- what a field may hold: an int within bounds, a long within bounds, a reference of a kind, or an int that the list V tells (its place there) -/
abbrev XT : Type := ((Int × Int) ⊕ (Int × Int)) ⊕ (Nat ⊕ Nat)
/-- a kind of cell: an object (its class, its fields), or a row (its type, its length, its elements: numbers within bounds, those that V tells among them (place, place in V), bounds by place, or references of kinds by their places) -/
abbrev XK : Type := (Nat × List XT) ⊕ (Nat × Nat × ((Int × Int × List (Nat × Nat) × List (Int × Int)) ⊕ List Nat))
/-- the kinds; the kind of each cell; the kinds that may be written; what V tells: (cell, field) -/
abbrev XE : Type := List XK × List Nat × (List (Nat × List (Nat × Nat)) × List (Nat × Nat × Nat × Int × Int × Int)) × List (Nat × Nat)
/-- what a reference of a kind outside the pool is; what is kept of the pool: it hangs on guarded places alone -/
abbrev XX : Type := (Nat → Nat → Prop) × (Nat → (Nat → va_E) → Prop)
def xwl : List (Nat × List (Nat × Nat)) → Nat → Option (List (Nat × Nat))
  | [], _ => none
  | (j, ps) :: r, k => if j = k then some ps else xwl r k
/-- the guarded places (from, to) of a kind that may be written -/
abbrev xwr (E : XE) (κ : Nat) : Option (List (Nat × Nat)) := xwl E.2.2.1.1 κ
/-- a point of a walk: where, ghosts, locals, stack, V -/
abbrev XC : Type := Nat × List XI × List (Nat × XV) × List XV × List XV
/-- of a kind: a cell of the pool; or, where there is no such kind, what xt says -/
def xB (E : XE) (lo : Nat) (xt : XX) (k a : Nat) : Prop := match E.1[k]? with
  | some _ => ∃ i, a = lo + i ∧ E.2.1[i]? = some k
  | none => xt.1 k a
theorem xB_in {E : XE} {xt : XX} {lo : Nat} {k a : Nat} {y : XK} (h : xB E lo xt k a) (hk : E.1[k]? = some y) : ∃ i, a = lo + i ∧ E.2.1[i]? = some k := by
  unfold xB at h
  rw [hk] at h
  exact h
theorem xB_of {E : XE} {xt : XX} {lo : Nat} {k i : Nat} {y : XK} (h : E.2.1[i]? = some k) (hk : E.1[k]? = some y) : xB E lo xt k (lo + i) := by
  unfold xB
  rw [hk]
  exact ⟨i, rfl, h⟩
/-- what a cell holds at a place -/
def cellv (e : va_E) (k : Nat) : Option Value := match e with
  | .inr (_, fs) => fs[k]?
  | .inl (_, z, .inl g) => if k < z then some (.int (g k)) else none
  | .inl (_, z, .inr (.inl g)) => if k < z then some (.long (g k)) else none
  | _ => none
def xok (B : Nat → Nat → Prop) (Gs : List Int) (x : XV) (v : Value) : Prop := match x with
  | .inl (.inl n) => ∃ i : Int32, v = .int i ∧ xval Gs n = some i.toInt
  | .inl (.inr n) => ∃ i : Int64, v = .long i ∧ xval Gs n = some i.toInt
  | .inr (.inl k) => ∃ a : Nat, v = .ref a ∧ B k a
  | .inr (.inr (a, b)) => ∃ x y : Int64, v = .int (lg_cmp x y) ∧ xval Gs a = some x.toInt ∧ xval Gs b = some y.toInt
def tok (B : Nat → Nat → Prop) (T : XT) (v : Value) : Prop := match T with
  | .inl (.inl (lo, hi)) => ∃ i : Int32, v = .int i ∧ lo ≤ i.toInt ∧ i.toInt ≤ hi
  | .inl (.inr (lo, hi)) => ∃ i : Int64, v = .long i ∧ lo ≤ i.toInt ∧ i.toInt ≤ hi
  | .inr (.inl k) => ∃ a : Nat, v = .ref a ∧ B k a
  | .inr (.inr _) => True
def BL (bl : List (Int × Int)) (g : Nat → Int32) : Prop := ∀ (i : Nat) (b : Int × Int), bl[i]? = some b → b.1 ≤ (g i).toInt ∧ (g i).toInt ≤ b.2
def cok (B : Nat → Nat → Prop) (t : Nat → ClassId) (κ : XK) (e : va_E) : Prop := match κ with
  | .inl (ci, ts) => ∃ fs : List Value, e = .inr (ci, fs) ∧ fs.length = ts.length ∧ ∀ (k : Nat) (T : XT), ts[k]? = some T → ∃ v, fs[k]? = some v ∧ tok B T v
  | .inr (tt, z, .inl (lo, hi, _, bl)) => if tt = 1 then ∃ g : Nat → Int64, e = .inl (t 1, z, .inr (.inl g)) ∧ ∀ i, i < z → lo ≤ (g i).toInt ∧ (g i).toInt ≤ hi else ∃ g : Nat → Int32, e = .inl (t tt, z, .inl g) ∧ (∀ i, i < z → lo ≤ (g i).toInt ∧ (g i).toInt ≤ hi) ∧ BL bl g
  | .inr (tt, z, .inr ks) => ∃ g : Nat → Option Nat, e = .inl (t tt, z, .inr (.inr (.inr (.inr g)))) ∧ ks.length = z ∧ ∀ (i k : Nat), ks[i]? = some k → ∃ b, g i = some b ∧ B k b
def TYP (E : XE) (xt : XX) (t : Nat → ClassId) (lo : Nat) (f : Nat → va_E) : Prop := ∀ (i k : Nat), E.2.1[i]? = some k → ∃ κ, E.1[k]? = some κ ∧ cok (xB E lo xt) t κ (f (lo + i))
def VOK (E : XE) (xt : XX) (lo : Nat) (Gs : List Int) (V : List XV) (f : Nat → va_E) : Prop := ∀ (j o k : Nat) (x : XV), E.2.2.2[j]? = some (o, k) → V[j]? = some x → ∃ v : Value, cellv (f (lo + o)) k = some v ∧ xok (xB E lo xt) Gs x v
def FZ (E : XE) (xt : XX) (lo : Nat) (f0 f : Nat → va_E) : Prop := (∀ (i k : Nat), E.2.1[i]? = some k → xwr E k = none → f (lo + i) = f0 (lo + i)) ∧ xt.2 lo f
/-- the ghosts of values -/
def gv (v : Value) : Int := match v with
  | .int i => i.toInt
  | .long i => i.toInt
  | _ => 0
def LR (B : Nat → Nat → Prop) (Gs : List Int) : List (Nat × XV) → List (Nat × Value) → Prop
  | [], [] => True
  | (i, x) :: L, (j, v) :: M => i = j ∧ xok B Gs x v ∧ LR B Gs L M
  | _, _ => False
def SR (B : Nat → Nat → Prop) (Gs : List Int) : List XV → List Value → Prop
  | [], [] => True
  | x :: L, v :: M => xok B Gs x v ∧ SR B Gs L M
  | _, _ => False
theorem xok_mono {B : Nat → Nat → Prop} {Gs t : List Int} {x : XV} {v : Value} (h : xok B Gs x v) : xok B (Gs ++ t) x v := by
  match x, h with
  | .inl (.inl n), ⟨i, h1, h2⟩ => exact ⟨i, h1, xval_mono h2⟩
  | .inl (.inr n), ⟨i, h1, h2⟩ => exact ⟨i, h1, xval_mono h2⟩
  | .inr (.inl k), h => exact h
  | .inr (.inr (a, b)), ⟨x, y, h1, h2, h3⟩ => exact ⟨x, y, h1, xval_mono h2, xval_mono h3⟩
theorem LR_mono {B : Nat → Nat → Prop} {Gs t : List Int} : ∀ {L : List (Nat × XV)} {M : List (Nat × Value)}, LR B Gs L M → LR B (Gs ++ t) L M
  | [], [], _ => trivial
  | (_, _) :: _, (_, _) :: _, ⟨h1, h2, h3⟩ => ⟨h1, xok_mono h2, LR_mono h3⟩
theorem SR_mono {B : Nat → Nat → Prop} {Gs t : List Int} : ∀ {L : List XV} {M : List Value}, SR B Gs L M → SR B (Gs ++ t) L M
  | [], [], _ => trivial
  | _ :: _, _ :: _, ⟨h1, h2⟩ => ⟨xok_mono h1, SR_mono h2⟩
theorem VOK_mono {E : XE} {xt : XX} {lo : Nat} {Gs t : List Int} {V : List XV} {f : Nat → va_E} (h : VOK E xt lo Gs V f) : VOK E xt lo (Gs ++ t) V f := fun j o k x h1 h2 => by
  obtain ⟨v, a, c⟩ := h j o k x h1 h2
  exact ⟨v, a, xok_mono c⟩
/-- of two-word values -/
def xcat (x : XV) : Nat := match x with
  | .inl (.inr _) => 2
  | _ => 1
theorem xcat_ok {B : Nat → Nat → Prop} {Gs : List Int} {x : XV} {v : Value} (h : xok B Gs x v) : v.category = xcat x := by
  match x, h with
  | .inl (.inl n), ⟨i, h1, h2⟩ => subst h1; rfl
  | .inl (.inr n), ⟨i, h1, h2⟩ => subst h1; rfl
  | .inr (.inl k), ⟨a, h1, _⟩ => subst h1; rfl
  | .inr (.inr (a, b)), ⟨x, y, h1, _⟩ => subst h1; rfl
/-- the machine stands at a point -/
def SAT (E : XE) (xt : XX) (D : va_G) (t : Nat → ClassId) (lo : Nat) (G0 : List Int) (f0 : Nat → va_E) (A : Nat → Prop) (s : State) (nl : Nat) (x : XC) (H : Heap) (locs : List Loc) (ls : Array Slot) (st : List Value) : Prop :=
  ∃ (Gs : List Int) (f : Nat → va_E) (lv : List (Nat × Value)), (∃ r, Gs = G0 ++ r) ∧ gok Gs x.2.1 ∧ lv_has ls nl lv ∧ LR (xB E lo xt) Gs x.2.2.1 lv ∧ SR (xB E lo xt) Gs x.2.2.2.1 st ∧ VOK E xt lo Gs x.2.2.2.2 f ∧ TYP E xt t lo f ∧ FZ E xt lo f0 f ∧ HX D t lo E.2.1.length f A s H locs
/-- lengths of instructions -/
def xlen (i : Instr) : Nat := match i with
  | .bipush _ | .ldc _ | .iload _ | .lload _ | .aload _ | .istore _ | .lstore _ | .astore _ => 2
  | .sipush _ | .ldc_w _ | .ldc2_w _ | .iinc _ _ | .goto _ | .ifCond _ _ | .if_icmp _ _ | .getfield _ | .putfield _ | .invokevirtual _ | .invokestatic _ | .invokespecial _ | .getstatic _ => 3
  | _ => 1
def bin32 (op : List XI → XN → XN → Option (List XI × XN)) (x : XC) : Option (List XC) := match x with
  | (pc, gi, L, .inl (.inl b) :: .inl (.inl a) :: S, V) => match op gi a b with
    | some (gi', r) => some [(pc + 1, gi', L, .inl (.inl r) :: S, V)]
    | none => none
  | _ => none
def bin64 (op : List XI → XN → XN → Option (List XI × XN)) (x : XC) : Option (List XC) := match x with
  | (pc, gi, L, .inl (.inr b) :: .inl (.inr a) :: S, V) => match op gi a b with
    | some (gi', r) => some [(pc + 1, gi', L, .inl (.inr r) :: S, V)]
    | none => none
  | _ => none
/-- a divisor that is not 0 -/
def xguard (op : List XI → XN → XN → Option (List XI × XN)) (gi : List XI) (a b : XN) : Option (List XI × XN) := if xnz gi b then op gi a b else none
def un32 (op : List XI → XN → Option (List XI × XN)) (x : XC) : Option (List XC) := match x with
  | (pc, gi, L, .inl (.inl a) :: S, V) => match op gi a with
    | some (gi', r) => some [(pc + 1, gi', L, .inl (.inl r) :: S, V)]
    | none => none
  | _ => none
section XS
variable {E : XE} {xt : XX} {D : va_G} {t : Nat → ClassId} {lo : Nat} {G0 : List Int} {f0 : Nat → va_E} {A : Nat → Prop}
variable {p : Program} {l : Launch} {e : Env} {R : Room} {s : State} {m : MethodId} {args : Array Value} {below : List Frame} {meth : Method} {c : Code} {H : Heap} {locs : List Loc} {cells slots : Nat} {Q : State → Prop}
variable {cc : ByteArray} {own : String} {nl : Nat} {ret : Option FieldType} {ls : Array Slot} {st : List Value} {x : XC} {xs : List XC}
/-- whoever stands at y comes to Q -/
def GO (E : XE) (xt : XX) (D : va_G) (t : Nat → ClassId) (lo : Nat) (G0 : List Int) (f0 : Nat → va_E) (A : Nat → Prop) (nl : Nat) (p : Program) (l : Launch) (e : Env) (R : Room) (s : State) (m : MethodId) (args : Array Value) (below : List Frame) (meth : Method) (c : Code) (cells slots : Nat) (Q : State → Prop) (y : XC) : Prop :=
  ∀ (H : Heap) (locs : List Loc) (ls : Array Slot) (st : List Value), SAT E xt D t lo G0 f0 A s nl y H locs ls st → W p l e R s m args below meth c H locs cells slots Q (F0 m y.1 ls st)
theorem SR_cons {B : Nat → Nat → Prop} {Gs : List Int} {y : XV} {S : List XV} {st : List Value} (h : SR B Gs (y :: S) st) : ∃ v st', st = v :: st' ∧ xok B Gs y v ∧ SR B Gs S st' := by
  match st, h with
  | v :: st', ⟨h1, h2⟩ => exact ⟨v, st', rfl, h1, h2⟩
theorem bin32_ok {F : Int32 → Int32 → Int32} {op : List XI → XN → XN → Option (List XI × XN)} (hop : Op32 F op) (h : bin32 op x = some xs) (hs : SAT E xt D t lo G0 f0 A s nl x H locs ls st)
    (row : ∀ (a b : Int32) (rest : List Value), W p l e R s m args below meth c H locs cells slots Q (F0 m (x.1 + 1) ls (.int (F a b) :: rest)) → W p l e R s m args below meth c H locs cells slots Q (F0 m x.1 ls (.int b :: .int a :: rest)))
    (kk : ∀ y ∈ xs, GO E xt D t lo G0 f0 A nl p l e R s m args below meth c cells slots Q y) : W p l e R s m args below meth c H locs cells slots Q (F0 m x.1 ls st) := by
  obtain ⟨pc, gi, L, S, V⟩ := x
  match S, h with
  | .inl (.inl b) :: .inl (.inl a) :: S, h =>
    obtain ⟨Gs, f, lv, ⟨r0, hr0⟩, hg, hl, hL, hS, hV, hT, hZ, hH⟩ := hs
    obtain ⟨v1, st1, rfl, ⟨ib, rfl, vb⟩, hS1⟩ := SR_cons hS
    obtain ⟨v2, st2, rfl, ⟨ia, rfl, va⟩, hS2⟩ := SR_cons hS1
    simp only [bin32] at h
    cases ho : op gi a b with
    | none => rw [ho] at h; cases h
    | some q =>
      obtain ⟨gi', r⟩ := q
      rw [ho] at h
      simp only [Option.some.injEq] at h
      subst h
      obtain ⟨tt, g1, g2⟩ := hop _ _ _ _ _ _ _ _ ho hg va vb
      refine row ia ib st2 (kk _ List.mem_cons_self _ _ _ _ ⟨Gs ++ tt, f, lv, ⟨r0 ++ tt, by rw [hr0, List.append_assoc]⟩, g1, hl, LR_mono hL, ⟨⟨_, rfl, g2⟩, SR_mono hS2⟩, VOK_mono hV, hT, hZ, hH⟩)
theorem bin32g_ok {F : Int32 → Int32 → Int32} {op : List XI → XN → XN → Option (List XI × XN)} (hop : Op32 F op) (h : bin32 (xguard op) x = some xs) (hs : SAT E xt D t lo G0 f0 A s nl x H locs ls st)
    (row : ∀ (a b : Int32) (rest : List Value), ¬ b = 0 → W p l e R s m args below meth c H locs cells slots Q (F0 m (x.1 + 1) ls (.int (F a b) :: rest)) → W p l e R s m args below meth c H locs cells slots Q (F0 m x.1 ls (.int b :: .int a :: rest)))
    (kk : ∀ y ∈ xs, GO E xt D t lo G0 f0 A nl p l e R s m args below meth c cells slots Q y) : W p l e R s m args below meth c H locs cells slots Q (F0 m x.1 ls st) := by
  obtain ⟨pc, gi, L, S, V⟩ := x
  match S, h with
  | .inl (.inl b) :: .inl (.inl a) :: S, h =>
    obtain ⟨Gs, f, lv, ⟨r0, hr0⟩, hg, hl, hL, hS, hV, hT, hZ, hH⟩ := hs
    obtain ⟨v1, st1, rfl, ⟨ib, rfl, vb⟩, hS1⟩ := SR_cons hS
    obtain ⟨v2, st2, rfl, ⟨ia, rfl, va⟩, hS2⟩ := SR_cons hS1
    simp only [bin32, xguard] at h
    by_cases hz : xnz gi b = true
    · rw [if_pos hz] at h
      have hne : ¬ ib = 0 := fun q => xnz_ok hz hg vb (by rw [q]; rfl)
      cases ho : op gi a b with
      | none => rw [ho] at h; cases h
      | some q =>
        obtain ⟨gi', r⟩ := q
        rw [ho] at h
        simp only [Option.some.injEq] at h
        subst h
        obtain ⟨tt, g1, g2⟩ := hop _ _ _ _ _ _ _ _ ho hg va vb
        refine row ia ib st2 hne (kk _ List.mem_cons_self _ _ _ _ ⟨Gs ++ tt, f, lv, ⟨r0 ++ tt, by rw [hr0, List.append_assoc]⟩, g1, hl, LR_mono hL, ⟨⟨_, rfl, g2⟩, SR_mono hS2⟩, VOK_mono hV, hT, hZ, hH⟩)
    · rw [if_neg hz] at h; cases h
theorem bin64_ok {F : Int64 → Int64 → Int64} {op : List XI → XN → XN → Option (List XI × XN)} (hop : Op64 F op) (h : bin64 op x = some xs) (hs : SAT E xt D t lo G0 f0 A s nl x H locs ls st)
    (row : ∀ (a b : Int64) (rest : List Value), W p l e R s m args below meth c H locs cells slots Q (F0 m (x.1 + 1) ls (.long (F a b) :: rest)) → W p l e R s m args below meth c H locs cells slots Q (F0 m x.1 ls (.long b :: .long a :: rest)))
    (kk : ∀ y ∈ xs, GO E xt D t lo G0 f0 A nl p l e R s m args below meth c cells slots Q y) : W p l e R s m args below meth c H locs cells slots Q (F0 m x.1 ls st) := by
  obtain ⟨pc, gi, L, S, V⟩ := x
  match S, h with
  | .inl (.inr b) :: .inl (.inr a) :: S, h =>
    obtain ⟨Gs, f, lv, ⟨r0, hr0⟩, hg, hl, hL, hS, hV, hT, hZ, hH⟩ := hs
    obtain ⟨v1, st1, rfl, ⟨ib, rfl, vb⟩, hS1⟩ := SR_cons hS
    obtain ⟨v2, st2, rfl, ⟨ia, rfl, va⟩, hS2⟩ := SR_cons hS1
    simp only [bin64] at h
    cases ho : op gi a b with
    | none => rw [ho] at h; cases h
    | some q =>
      obtain ⟨gi', r⟩ := q
      rw [ho] at h
      simp only [Option.some.injEq] at h
      subst h
      obtain ⟨tt, g1, g2⟩ := hop _ _ _ _ _ _ _ _ ho hg va vb
      refine row ia ib st2 (kk _ List.mem_cons_self _ _ _ _ ⟨Gs ++ tt, f, lv, ⟨r0 ++ tt, by rw [hr0, List.append_assoc]⟩, g1, hl, LR_mono hL, ⟨⟨_, rfl, g2⟩, SR_mono hS2⟩, VOK_mono hV, hT, hZ, hH⟩)
theorem bin64g_ok {F : Int64 → Int64 → Int64} {op : List XI → XN → XN → Option (List XI × XN)} (hop : Op64 F op) (h : bin64 (xguard op) x = some xs) (hs : SAT E xt D t lo G0 f0 A s nl x H locs ls st)
    (row : ∀ (a b : Int64) (rest : List Value), ¬ b = 0 → W p l e R s m args below meth c H locs cells slots Q (F0 m (x.1 + 1) ls (.long (F a b) :: rest)) → W p l e R s m args below meth c H locs cells slots Q (F0 m x.1 ls (.long b :: .long a :: rest)))
    (kk : ∀ y ∈ xs, GO E xt D t lo G0 f0 A nl p l e R s m args below meth c cells slots Q y) : W p l e R s m args below meth c H locs cells slots Q (F0 m x.1 ls st) := by
  obtain ⟨pc, gi, L, S, V⟩ := x
  match S, h with
  | .inl (.inr b) :: .inl (.inr a) :: S, h =>
    obtain ⟨Gs, f, lv, ⟨r0, hr0⟩, hg, hl, hL, hS, hV, hT, hZ, hH⟩ := hs
    obtain ⟨v1, st1, rfl, ⟨ib, rfl, vb⟩, hS1⟩ := SR_cons hS
    obtain ⟨v2, st2, rfl, ⟨ia, rfl, va⟩, hS2⟩ := SR_cons hS1
    simp only [bin64, xguard] at h
    by_cases hz : xnz gi b = true
    · rw [if_pos hz] at h
      have hne : ¬ ib = 0 := fun q => xnz_ok hz hg vb (by rw [q]; rfl)
      cases ho : op gi a b with
      | none => rw [ho] at h; cases h
      | some q =>
        obtain ⟨gi', r⟩ := q
        rw [ho] at h
        simp only [Option.some.injEq] at h
        subst h
        obtain ⟨tt, g1, g2⟩ := hop _ _ _ _ _ _ _ _ ho hg va vb
        refine row ia ib st2 hne (kk _ List.mem_cons_self _ _ _ _ ⟨Gs ++ tt, f, lv, ⟨r0 ++ tt, by rw [hr0, List.append_assoc]⟩, g1, hl, LR_mono hL, ⟨⟨_, rfl, g2⟩, SR_mono hS2⟩, VOK_mono hV, hT, hZ, hH⟩)
    · rw [if_neg hz] at h; cases h
theorem un32_ok {F : Int32 → Int32} {op : List XI → XN → Option (List XI × XN)} (hop : Un32 F op) (h : un32 op x = some xs) (hs : SAT E xt D t lo G0 f0 A s nl x H locs ls st)
    (row : ∀ (a : Int32) (rest : List Value), W p l e R s m args below meth c H locs cells slots Q (F0 m (x.1 + 1) ls (.int (F a) :: rest)) → W p l e R s m args below meth c H locs cells slots Q (F0 m x.1 ls (.int a :: rest)))
    (kk : ∀ y ∈ xs, GO E xt D t lo G0 f0 A nl p l e R s m args below meth c cells slots Q y) : W p l e R s m args below meth c H locs cells slots Q (F0 m x.1 ls st) := by
  obtain ⟨pc, gi, L, S, V⟩ := x
  match S, h with
  | .inl (.inl a) :: S, h =>
    obtain ⟨Gs, f, lv, ⟨r0, hr0⟩, hg, hl, hL, hS, hV, hT, hZ, hH⟩ := hs
    obtain ⟨v2, st2, rfl, ⟨ia, rfl, va⟩, hS2⟩ := SR_cons hS
    simp only [un32] at h
    cases ho : op gi a with
    | none => rw [ho] at h; cases h
    | some q =>
      obtain ⟨gi', r⟩ := q
      rw [ho] at h
      simp only [Option.some.injEq] at h
      subst h
      obtain ⟨tt, g1, g2⟩ := hop _ _ _ _ _ _ ho hg va
      refine row ia st2 (kk _ List.mem_cons_self _ _ _ _ ⟨Gs ++ tt, f, lv, ⟨r0 ++ tt, by rw [hr0, List.append_assoc]⟩, g1, hl, LR_mono hL, ⟨⟨_, rfl, g2⟩, SR_mono hS2⟩, VOK_mono hV, hT, hZ, hH⟩)
end XS
