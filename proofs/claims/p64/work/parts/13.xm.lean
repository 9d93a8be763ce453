/-! CONTRACTS. Each argument and each entry of V has a ghost; a case tells what is known of them behind, the answer, and V then. -/
abbrev XP : Type := ((Int × Int) ⊕ (Int × Int)) ⊕ (Nat ⊕ (XN ⊕ XN))
/-- relations among numbers: (i, j, c): the i-th is at most the j-th and c -/
abbrev XR : Type := List (Nat × Nat × Int)
abbrev XO : Type := List (Int × Int) × Option XP × List XP × XR
abbrev XM : Type := List XP × List XP × List XO × XR
def rrel (zs : List Int) (R : XR) : Prop := ∀ q ∈ R, ∀ x y, zs[q.1]? = some x → zs[q.2.1]? = some y → x ≤ y + q.2.2
def pok (B : Nat → Nat → Prop) (P : XP) (v : Value) (z : Int) : Prop := match P with
  | .inl (.inl (lo, hi)) => ∃ i : Int32, v = .int i ∧ i.toInt = z ∧ lo ≤ z ∧ z ≤ hi
  | .inl (.inr (lo, hi)) => ∃ i : Int64, v = .long i ∧ i.toInt = z ∧ lo ≤ z ∧ z ≤ hi
  | .inr (.inl k) => (∃ a : Nat, v = .ref a ∧ B k a) ∧ z = 0
  | _ => False
def AOK (B : Nat → Nat → Prop) : List XP → List Value → List Int → Prop
  | [], [], [] => True
  | P :: ps, v :: vs, z :: zs => pok B P v z ∧ AOK B ps vs zs
  | _, _, _ => False
/-- what V tells, in a heap -/
def TRV (E : XE) (lo : Nat) (f : Nat → va_E) (vs : List Value) : Prop := ∀ (j o k : Nat) (v : Value), E.2.2.2[j]? = some (o, k) → vs[j]? = some v → cellv (f (lo + o)) k = some v
def ENT (E : XE) (xt : XX) (lo : Nat) (M : XM) (vs : List Value) (G0 : List Int) (f : Nat → va_E) : Prop := ∃ (vv : List Value), TRV E lo f vv ∧ AOK (xB E lo xt) (M.1 ++ M.2.1) (vs ++ vv) G0 ∧ vs.length = M.1.length ∧ rrel G0 M.2.2.2
def rok (B : Nat → Nat → Prop) (G0 : List Int) (P : XP) (v : Value) : Prop := match P with
  | .inl (.inl (lo, hi)) => ∃ i : Int32, v = .int i ∧ lo ≤ i.toInt ∧ i.toInt ≤ hi
  | .inl (.inr (lo, hi)) => ∃ i : Int64, v = .long i ∧ lo ≤ i.toInt ∧ i.toInt ≤ hi
  | .inr (.inl k) => ∃ a : Nat, v = .ref a ∧ B k a
  | .inr (.inr (.inl n)) => ∃ i : Int32, v = .int i ∧ xval G0 n = some i.toInt
  | .inr (.inr (.inr n)) => ∃ i : Int64, v = .long i ∧ xval G0 n = some i.toInt
def ROK (B : Nat → Nat → Prop) (G0 : List Int) : List XP → List Value → Prop
  | [], [] => True
  | P :: ps, v :: vs => rok B G0 P v ∧ ROK B G0 ps vs
  | _, _ => False
def OOK (E : XE) (xt : XX) (lo : Nat) (G0 : List Int) (o : XO) (ov : Option Value) (f : Nat → va_E) : Prop :=
  (∀ (g : Nat) (u w z : Int), o.1[g]? = some (u, w) → G0[g]? = some z → u ≤ z ∧ z ≤ w) ∧
  (match o.2.1, ov with | none, none => True | some P, some v => rok (xB E lo xt) G0 P v | _, _ => False) ∧
  ∃ vv, TRV E lo f vv ∧ ROK (xB E lo xt) G0 o.2.2.1 vv ∧ rrel (G0 ++ (vv.map gv ++ ov.toList.map gv)) o.2.2.2
def QcX (E : XE) (xt : XX) (D : va_G) (t : Nat → ClassId) (lo : Nat) (M : XM) (G0 : List Int) (f0 : Nat → va_E) : Array Value → State → Outcome → State → Prop := fun _ st oc tt => ∃ (ov : Option Value) (f : Nat → va_E) (o : XO), oc = .returned ov ∧ o ∈ M.2.2.1 ∧ OOK E xt lo G0 o ov f ∧ TYP E xt t lo f ∧ FZ E xt lo f0 f ∧ va_P D vwCl (px_W lo E.2.1.length f) tt.heap ∧ va_F (px_A lo E.2.1.length) st tt
/-- a method: its name, code, locals, answer, depth -/
abbrev XY : Type := MethodName × ByteArray × Nat × Option FieldType × Nat
def HOLDS (l : Launch) (E : XE) (xt : XX) (D : va_G) (t : Nat → ClassId) (lo : Nat) (Y : XY) (M : XM) : Prop := ∀ (vs : List Value) (G0 : List Int) (f : Nat → va_E), ENT E xt lo M vs G0 f → TYP E xt t lo f → xt.2 lo f → Met l Y.1 (px_ws Y.1 Y.2.1 Y.2.2.1 Y.2.2.2.1) (px_rm Y.2.2.2.2) (PcM D t lo E.2.1.length f vs) (QcX E xt D t lo M G0 f) 0 0 (px_A lo E.2.1.length)
/-- a call's links: (place, method, 1 if static, number of parameters, the receiver's class) -/
abbrev XL : Type := List (Nat × Nat × Nat × Nat × Nat)
def xml : XL → Nat → Option (Nat × Nat × Nat × Nat)
  | [], _ => none
  | (j, r) :: L, i => if j = i then some r else xml L i
/-- the facts of a link; virtual: the receiver's class ci -/
def ML1 (own : String) (Y : XY) (i stc na ci : Nat) : Prop := (stc = 5 → own = "BellMoney$Reader" ∧ na < 19 ∧ strI.getD na 0 = i) ∧ (stc = 6 → Cond.methodLink own i Lib.Math.max.name ∈ Wd ∧ Cond.static Lib.Math.max.name ∈ Wd ∧ Cond.initialized "java/lang/Math" ∈ Wd ∧ Cond.code Lib.Math.max.name Lib.Math.max.code 2 (some .int) ∈ Wd) ∧ (stc = 7 → Cond.methodLink own i Lib.Math.min.name ∈ Wd ∧ Cond.static Lib.Math.min.name ∈ Wd ∧ Cond.initialized "java/lang/Math" ∈ Wd ∧ Cond.code Lib.Math.min.name Lib.Math.min.code 2 (some .int) ∈ Wd) ∧ (stc < 5 →
  Cond.methodLink own i Y.1 ∈ Wd ∧ Cond.code Y.1 Y.2.1 Y.2.2.1 Y.2.2.2.1 ∈ Wd ∧ Cond.initialized Y.1.cls ∈ Wd ∧ (Y.1.cls ≠ "java/lang/invoke/MethodHandle" ∧ Y.1.cls ≠ "java/lang/invoke/VarHandle" ∧ (parseMethodDescriptor Y.1.desc).map (fun d => d.parameters.length) = some na) ∧ Y.2.2.1 + 19 ≤ 60 ∧
  (if stc = 1 then Cond.static Y.1 ∈ Wd else if stc = 2 then Cond.static Y.1 ∈ Wd ∧ na = 2 ∧ Y.1 = yX11_isBit ∧ Y.2.1 = cX11_isBit ∧ Y.2.2.1 = 2 ∧ Y.2.2.2.1 = some .boolean else if stc = 3 then Cond.instanceMethod Y.1 ∈ Wd ∧ Cond.selects Y.1.cls Y.1 Y.1 ∈ Wd ∧ na = 0 ∧ Y.1 = yJ0_length_8abf5 ∧ Y.2.1 = cJ0_length_8abf5 ∧ Y.2.2.1 = 1 ∧ Y.2.2.2.1 = some .int else if stc = 4 then Cond.instanceMethod Y.1 ∈ Wd ∧ Cond.selects Y.1.cls Y.1 Y.1 ∈ Wd ∧ na = 1 ∧ Y.1 = yJ0_charAt_5068e ∧ Y.2.1 = cJ0_charAt_5068e ∧ Y.2.2.1 = 2 ∧ Y.2.2.2.1 = some .char else Cond.instanceMethod Y.1 ∈ Wd ∧ Cond.selects Y.1.cls Y.1 Y.1 ∈ Wd ∧ ∃ T N, vwCl[ci]? = some (Y.1.cls, T, N)))
def MLok (own : String) (ys : List XY) (L : XL) : Prop := ∀ i no stc na ci, xml L i = some (no, stc, na, ci) → ∃ Y, ys[no]? = some Y ∧ ML1 own Y i stc na ci
theorem MLok.nil {own : String} {ys : List XY} : MLok own ys [] := fun i ci k b c h => by cases h
theorem MLok.cons {own : String} {ys : List XY} {i no stc na ci : Nat} {Y : XY} {L : XL} (hY : ys[no]? = some Y) (h : ML1 own Y i stc na ci) (h2 : MLok own ys L) : MLok own ys ((i, no, stc, na, ci) :: L) := fun i' no' k' b' c' q => by
  simp only [xml] at q
  by_cases c : i = i'
  · rw [if_pos c] at q
    cases q
    subst c
    exact ⟨Y, hY, h⟩
  · rw [if_neg c] at q
    exact h2 i' no' k' b' c' q
/-- the first n of a stack, the deepest first, and what is below -/
def xpop : Nat → List XV → List XV → Option (List XV × List XV)
  | 0, acc, S => some (acc, S)
  | n + 1, acc, x :: S => xpop n (x :: acc) S
  | _ + 1, _, [] => none
def xfits (gi : List XI) (P : XP) (x : XV) : Bool := match P, x with
  | .inl (.inl (lo, hi)), .inl (.inl n) => match xiv gi n with
    | some (a, b) => decide (lo ≤ a) && decide (b ≤ hi)
    | none => false
  | .inl (.inr (lo, hi)), .inl (.inr n) => match xiv gi n with
    | some (a, b) => decide (lo ≤ a) && decide (b ≤ hi)
    | none => false
  | .inr (.inl k), .inr (.inl k') => k == k'
  | _, _ => false
def xfitl (gi : List XI) : List XP → List XV → Bool
  | [], [] => true
  | P :: ps, x :: xs => xfits gi P x && xfitl gi ps xs
  | _, _ => false
/-- what a case tells of the arguments -/
def xcuts : List XI → List XV → List (Int × Int) → Option (List XI)
  | gi, [], _ => some gi
  | gi, _, [] => some gi
  | gi, .inl (.inl n) :: xs, (u, w) :: bs => match xcutR gi n u w with
    | some g => xcuts g xs bs
    | none => none
  | gi, .inl (.inr n) :: xs, (u, w) :: bs => match xcutR gi n u w with
    | some g => xcuts g xs bs
    | none => none
  | gi, _ :: xs, _ :: bs => xcuts gi xs bs
def xent (cur : List XV) (n : XN) : Option XN := match n.1 with
  | none => some n
  | some g => match cur[g]? with
    | some (.inl (.inl a)) => some (a.1, a.2 + n.2)
    | some (.inl (.inr a)) => some (a.1, a.2 + n.2)
    | _ => none
def xinst (cur : List XV) (gi : List XI) (P : XP) : Option (List XI × XV) := match P with
  | .inl (.inl (lo, hi)) => some ((xmk gi lo hi none).1, .inl (.inl (xmk gi lo hi none).2))
  | .inl (.inr (lo, hi)) => some ((xmk gi lo hi none).1, .inl (.inr (xmk gi lo hi none).2))
  | .inr (.inl k) => some (gi, .inr (.inl k))
  | .inr (.inr (.inl n)) => match xent cur n with
    | some a => some (gi, .inl (.inl a))
    | none => none
  | .inr (.inr (.inr n)) => match xent cur n with
    | some a => some (gi, .inl (.inr a))
    | none => none
def xinsts (cur : List XV) : List XI → List XP → Option (List XI × List XV)
  | gi, [] => some (gi, [])
  | gi, P :: ps => match xinst cur gi P with
    | some (g, v) => match xinsts cur g ps with
      | some (g', vs) => some (g', v :: vs)
      | none => none
    | none => none
def xnum (x : XV) : Option XN := match x with
  | .inl (.inl n) => some n
  | .inl (.inr n) => some n
  | _ => none
def xids (n : Nat) : List (Option XN) := (List.range n).map (fun g => some (some g, 0))
/-- relations that are known -/
def xrch (gi : List XI) (ns : List (Option XN)) (R : XR) : Bool := R.all (fun q => match ns[q.1]?, ns[q.2.1]? with
  | some (some a), some (some b) => xleq gi a (b.1, b.2 + q.2.2)
  | _, _ => false)
/-- what is not above g is not above what g is not above -/
def xtr1 (g : Nat) (b : XN) (u : XJ) : Option XJ := match u with
  | .inl (.inl (some h, k)) => if h = g then some (.inl (.inl (b.1, b.2 + k))) else none
  | _ => none
def xtr (gi : List XI) (g : Nat) (b : XN) : List XI := gi.map (fun q => (q.1, q.2.1, q.2.2 ++ q.2.2.filterMap (xtr1 g b)))
/-- relations that become known; none: there is no such -/
def xrrc (ns : List (Option XN)) : XR → List XI → Option (List XI)
  | [], gi => some gi
  | q :: R, gi => match ns[q.1]?, ns[q.2.1]? with
    | some (some a), some (some b) => match xle gi a (b.1, b.2 + q.2.2) with
      | some g => (match a.1 with
        | some h => xrrc ns R (xtr g h (b.1, b.2 + q.2.2 - a.2))
        | none => xrrc ns R g)
      | none => none
    | _, _ => xrrc ns R gi
def xcase (pc : Nat) (cur : List XV) (gi : List XI) (L : List (Nat × XV)) (S : List XV) (o : XO) : Option (List XC) := match xcuts gi cur o.1 with
  | none => some []
  | some g => match xinsts cur g o.2.2.1 with
    | none => none
    | some (g2, V) => match o.2.1 with
      | none => match xrrc (cur.map xnum ++ (V.map xnum ++ [])) o.2.2.2 g2 with
        | some g3 => some [(pc + 3, g3, L, S, V)]
        | none => some []
      | some P => match xinst cur g2 P with
        | some (g3, v) => match xrrc (cur.map xnum ++ (V.map xnum ++ [xnum v])) o.2.2.2 g3 with
          | some g4 => some [(pc + 3, g4, L, v :: S, V)]
          | none => some []
        | none => none
def xcases (pc : Nat) (cur : List XV) (gi : List XI) (L : List (Nat × XV)) (S : List XV) : List XO → Option (List XC)
  | [] => some []
  | o :: os => match xcase pc cur gi L S o, xcases pc cur gi L S os with
    | some a, some b => some (a ++ b)
    | _, _ => none
def xfind (gi : List XI) (cur : List XV) (no : Nat) : List (Nat × XM) → Option XM
  | [] => none
  | (no', M) :: r => if (no' == no && xfitl gi (M.1 ++ M.2.1) cur && xrch gi (cur.map xnum) M.2.2.2) = true then some M else xfind gi cur no r
/-- the receiver is of the class -/
def xrecv (E : XE) (stc ci : Nat) (as : List XV) : Bool := if stc = 1 then true else match as with
  | .inr (.inl κ) :: _ => match E.1[κ]? with
    | some (.inl (ci', _)) => ci' == ci
    | _ => false
  | _ => false
/-- depths of the methods (for the room), calls -/
def xgo (kc : Nat) (dep : List Nat) (E : XE) (ml : XL) (ce : List (Nat × XM)) (i st : Nat) (x : XC) : Option (List XC) := match x with
  | (pc, gi, L, S, V) => match xml ml i with
    | some (no, stc, na, ci) => if stc = st then (match xpop (na + 1 - st) [] S, dep[no]? with
      | some (as, S'), some k => if k + 1 ≤ kc ∧ (S'.map xcat).sum ≤ 8 ∧ xrecv E st ci as = true ∧ V.length = E.2.2.2.length then (match xfind gi (as ++ V) no ce with
        | some M => if as.length = M.1.length ∧ M.2.2.1.all (fun o => o.2.2.1.length == E.2.2.2.length) = true then xcases pc (as ++ V) gi L S' M.2.2.1 else none
        | none => none) else none
      | _, _ => none) else none
    | none => none
def stepE (kc : Nat) (dep : List Nat) (E : XE) (ml : XL) (ce : List (Nat × XM)) (ins : Instr) (x : XC) : Option (List XC) := match ins with
  | .invokevirtual i => xgo kc dep E ml ce i 0 x
  | .invokestatic i => xgo kc dep E ml ce i 1 x
  | _ => none
