/-! MAKINGS: a concrete run of a constructor. A value: an int, a long, null, a cell counted from the object on, or an argument's cell. -/
abbrev KV : Type := Int ⊕ (Int ⊕ Option (Nat ⊕ Nat))
abbrev KC : Type := (Nat × List KV) ⊕ (Nat × Nat × (List (Nat × Int) ⊕ List (Nat × (Nat ⊕ Nat))))
def kad (lo : Nat) (ext : List Nat) (r : Nat ⊕ Nat) : Nat := match r with
  | .inl i => lo + i
  | .inr j => ext.getD j 0
def kval (lo : Nat) (ext : List Nat) (v : KV) : Value := match v with
  | .inl n => .int (Int32.ofInt n)
  | .inr (.inl n) => .long (Int64.ofInt n)
  | .inr (.inr none) => .null
  | .inr (.inr (some r)) => .ref (kad lo ext r)
def kI : List (Nat × Int) → Nat → Int32
  | [] => fun _ => 0
  | (i, x) :: r => upd (kI r) i (Int32.ofInt x)
def kR (lo : Nat) (ext : List Nat) : List (Nat × (Nat ⊕ Nat)) → Nat → Option Nat
  | [] => fun _ => none
  | (i, x) :: r => va_up (kR lo ext r) i (some (kad lo ext x))
def kcell (t : Nat → ClassId) (lo : Nat) (ext : List Nat) (c : KC) : va_E := match c with
  | .inl (ci, fs) => .inr (ci, fs.map (kval lo ext))
  | .inr (tt, z, .inl us) => if tt = 1 then .inl (t 1, z, .inr (.inl (fun _ => 0))) else .inl (t tt, z, .inl (kI us))
  | .inr (tt, z, .inr rs) => .inl (t tt, z, .inr (.inr (.inr (.inr (kR lo ext rs)))))
/-- where, cells, locals, stack, cells made, slots made -/
abbrev KX : Type := Nat × List KC × List (Nat × KV) × List KV × Nat × Nat
def kcat (v : KV) : Nat := match v with
  | .inr (.inl _) => 2
  | _ => 1
theorem kcat_ok {lo : Nat} {ext : List Nat} {v : KV} : (kval lo ext v).category = kcat v := by
  match v with
  | .inl n => rfl
  | .inr (.inl n) => rfl
  | .inr (.inr none) => rfl
  | .inr (.inr (some r)) => rfl
/-- a constructor's outcome: cells, slots, its class, its depth, its fields at first, the cells -/
abbrev KM : Type := Nat × Nat × Nat × Nat × List KV × List KC
/-- tables: fields (place, class, field, type 0 int 1 boolean 2 long 3 reference, final), makings (place, class, its fields at first), rows of references (place, type), Object's constructor, constructors (place, nest, parameters, outcome) -/
abbrev KT : Type := List (Nat × Nat × Nat × Nat × Bool) × List (Nat × Nat × List KV) × List (Nat × Nat) × List Nat × List (Nat × Bool × Nat × KM)
def klook {α : Type} : List (Nat × α) → Nat → Option α
  | [], _ => none
  | (j, x) :: L, i => if j = i then some x else klook L i
def kput (L : List (Nat × KV)) (i : Nat) (x : KV) : List (Nat × KV) := (i, x) :: L.filter (fun q => !(q.1 == i) && !(q.1 + 1 == i && kcat q.2 == 2))
def kfit (b : Nat) (v : KV) : Bool := match b, v with
  | 0, .inl n => decide (lo32 ≤ n) && decide (n ≤ hi32)
  | 1, .inl n => n == 0 || n == 1
  | 2, .inr (.inl n) => decide (lo64 ≤ n) && decide (n ≤ hi64)
  | 3, .inr (.inr _) => true
  | _, _ => false
def ksh (b0 : Nat) (as : List KV) (r : Nat ⊕ Nat) : Option (Nat ⊕ Nat) := match r with
  | .inl i => some (.inl (b0 + i))
  | .inr j => match as[j]? with
    | some (.inr (.inr (some q))) => some q
    | _ => none
def kshv (b0 : Nat) (as : List KV) (v : KV) : Option KV := match v with
  | .inr (.inr (some r)) => match ksh b0 as r with
    | some q => some (.inr (.inr (some q)))
    | none => none
  | v => some v
def kshl {α β : Type} (f : α → Option β) : List α → Option (List β)
  | [] => some []
  | a :: l => match f a, kshl f l with
    | some b, some r => some (b :: r)
    | _, _ => none
def kshc (b0 : Nat) (as : List KV) (c : KC) : Option KC := match c with
  | .inl (ci, fs) => match kshl (kshv b0 as) fs with
    | some r => some (.inl (ci, r))
    | none => none
  | .inr (tt, z, .inl us) => some (.inr (tt, z, .inl us))
  | .inr (tt, z, .inr rs) => match kshl (fun q : Nat × (Nat ⊕ Nat) => (ksh b0 as q.2).map (fun w => (q.1, w))) rs with
    | some r => some (.inr (tt, z, .inr r))
    | none => none
def kpop : Nat → List KV → List KV → Option (List KV × List KV)
  | 0, acc, S => some (acc, S)
  | n + 1, acc, x :: S => kpop n (x :: acc) S
  | _ + 1, _, [] => none
def kref (v : KV) : Bool := match v with
  | .inr (.inr (some _)) => true
  | _ => false
def kdefl : List KV → List KV → Bool
  | [], [] => true
  | .inl a :: r, .inl b :: q => a == b && kdefl r q
  | .inr (.inl a) :: r, .inr (.inl b) :: q => a == b && kdefl r q
  | .inr (.inr none) :: r, .inr (.inr none) :: q => kdefl r q
  | _, _ => false
theorem kdefl_ok : ∀ {l r : List KV}, kdefl l r = true → l = r
  | [], [], _ => rfl
  | .inl a :: l, .inl b :: r, h => by
    simp only [kdefl, Bool.and_eq_true, beq_iff_eq] at h
    rw [h.1, kdefl_ok h.2]
  | .inr (.inl a) :: l, .inr (.inl b) :: r, h => by
    simp only [kdefl, Bool.and_eq_true, beq_iff_eq] at h
    rw [h.1, kdefl_ok h.2]
  | .inr (.inr none) :: l, .inr (.inr none) :: r, h => by
    simp only [kdefl] at h
    rw [kdefl_ok h]
/-- the cell is a fresh object -/
def kobj (es : List KC) (b0 ci : Nat) (fs0 : List KV) : Bool := match es[b0]? with
  | some (.inl (ci', fs)) => ci' == ci && kdefl fs fs0
  | _ => false
theorem kobj_ok {es : List KC} {b0 ci : Nat} {fs0 : List KV} (h : kobj es b0 ci fs0 = true) : es[b0]? = some (.inl (ci, fs0)) := by
  unfold kobj at h
  split at h
  · rename_i ci' fs e
    simp only [Bool.and_eq_true, beq_iff_eq] at h
    rw [e, h.1, kdefl_ok h.2]
  · cases h
def kcmp (co : ClassFile.Cond) (a b : Int) : Bool := match co with
  | .eq => a == b
  | .ne => !(a == b)
  | .lt => decide (a < b)
  | .ge => decide (b ≤ a)
  | .gt => decide (b < a)
  | .le => decide (a ≤ b)
def kty (a : ArrayType) : Option Nat := match a with
  | .int => some 0
  | .long => some 1
  | .byte => some 2
  | .boolean => some 3
  | _ => none
def kstep (T : KT) (nl kc MC MS : Nat) (ins : Instr) (len : Nat) (x : KX) : Option KX := match ins, x with
  | .aload_n i, (pc, es, L, S, mc, ms) => if len = 1 then (match klook L i with
    | some (.inr (.inr (some r))) => some (pc + 1, es, L, .inr (.inr (some r)) :: S, mc, ms)
    | _ => none) else none
  | .iload_n i, (pc, es, L, S, mc, ms) => if len = 1 then (match klook L i with
    | some (.inl n) => some (pc + 1, es, L, .inl n :: S, mc, ms)
    | _ => none) else none
  | .astore_n i, (pc, es, L, .inr (.inr (some r)) :: S, mc, ms) => if len = 1 ∧ (i : Nat) < nl then some (pc + 1, es, kput L i (.inr (.inr (some r))), S, mc, ms) else none
  | .istore_n i, (pc, es, L, .inl n :: S, mc, ms) => if len = 1 ∧ (i : Nat) < nl then some (pc + 1, es, kput L i (.inl n), S, mc, ms) else none
  | .iinc i n, (pc, es, L, S, mc, ms) => if len = 3 ∧ i < nl then (match klook L i with
    | some (.inl a) => some (pc + 3, es, kput L i (.inl (a + n)), S, mc, ms)
    | _ => none) else none
  | .iconst n, (pc, es, L, S, mc, ms) => if len = 1 then some (pc + 1, es, L, .inl n :: S, mc, ms) else none
  | .bipush n, (pc, es, L, S, mc, ms) => if len = 2 ∧ -128 ≤ n ∧ n ≤ 127 then some (pc + 2, es, L, .inl n :: S, mc, ms) else none
  | .sipush n, (pc, es, L, S, mc, ms) => if len = 3 ∧ -32768 ≤ n ∧ n ≤ 32767 then some (pc + 3, es, L, .inl n :: S, mc, ms) else none
  | .lconst n, (pc, es, L, S, mc, ms) => if len = 1 then some (pc + 1, es, L, .inr (.inl ((n : Nat) : Int)) :: S, mc, ms) else none
  | .dup, (pc, es, L, v :: S, mc, ms) => if len = 1 ∧ kcat v = 1 then some (pc + 1, es, L, v :: v :: S, mc, ms) else none
  | .goto off, (pc, es, L, S, mc, ms) => if len = 3 then (match xtgt pc off with
    | some t => some (t, es, L, S, mc, ms)
    | none => none) else none
  | .if_icmp co off, (pc, es, L, .inl b :: .inl a :: S, mc, ms) => if len = 3 ∧ lo32 ≤ a ∧ a ≤ hi32 ∧ lo32 ≤ b ∧ b ≤ hi32 then (match xtgt pc off with
    | some t => some (if kcmp co a b = true then t else pc + 3, es, L, S, mc, ms)
    | none => none) else none
  | .getfield i, (pc, es, L, .inr (.inr (some (.inl o))) :: S, mc, ms) => if len = 3 then (match klook T.1 i, es[o]? with
    | some (ci, k, _, _), some (.inl (ci', fs)) => if ci = ci' then (match fs[k]? with
      | some v => some (pc + 3, es, L, v :: S, mc, ms)
      | none => none) else none
    | _, _ => none) else none
  | .putfield i, (pc, es, L, v :: .inr (.inr (some (.inl o))) :: S, mc, ms) => if len = 3 then (match klook T.1 i, es[o]? with
    | some (ci, k, b, _), some (.inl (ci', fs)) => if ci = ci' ∧ k < fs.length ∧ kfit b v = true then some (pc + 3, es.set o (.inl (ci, fs.set k v)), L, S, mc, ms) else none
    | _, _ => none) else none
  | .new i, (pc, es, L, S, mc, ms) => if len = 3 then (match klook T.2.1 i with
    | some (ci, fs) => if mc + 1 ≤ MC ∧ ms + fs.length ≤ MS then some (pc + 3, es ++ [.inl (ci, fs)], L, .inr (.inr (some (.inl es.length))) :: S, mc + 1, ms + fs.length) else none
    | none => none) else none
  | .newarray a, (pc, es, L, .inl n :: S, mc, ms) => if len = 2 ∧ 0 ≤ n ∧ n ≤ 60000 then (match kty a with
    | some tt => if mc + 1 ≤ MC ∧ ms + n.toNat ≤ MS then some (pc + 2, es ++ [.inr (tt, n.toNat, .inl [])], L, .inr (.inr (some (.inl es.length))) :: S, mc + 1, ms + n.toNat) else none
    | none => none) else none
  | .anewarray i, (pc, es, L, .inl n :: S, mc, ms) => if len = 3 ∧ 0 ≤ n ∧ n ≤ 60000 then (match klook T.2.2.1 i with
    | some tt => if mc + 1 ≤ MC ∧ ms + n.toNat ≤ MS then some (pc + 3, es ++ [.inr (tt, n.toNat, .inr [])], L, .inr (.inr (some (.inl es.length))) :: S, mc + 1, ms + n.toNat) else none
    | none => none) else none
  | .arraylength, (pc, es, L, .inr (.inr (some (.inl o))) :: S, mc, ms) => if len = 1 then (match es[o]? with
    | some (.inr (tt, z, _)) => if tt < 7 ∧ z ≤ 60000 then some (pc + 1, es, L, .inl (z : Int) :: S, mc, ms) else none
    | _ => none) else none
  | .iastore, (pc, es, L, .inl v :: .inl i :: .inr (.inr (some (.inl o))) :: S, mc, ms) => if len = 1 then (match es[o]? with
    | some (.inr (0, z, .inl us)) => if 0 ≤ i ∧ i < (z : Int) ∧ i ≤ 60000 then some (pc + 1, es.set o (.inr (0, z, .inl ((i.toNat, v) :: us))), L, S, mc, ms) else none
    | _ => none) else none
  | .aastore, (pc, es, L, .inr (.inr (some (.inl j))) :: .inl i :: .inr (.inr (some (.inl o))) :: S, mc, ms) => if len = 1 then (match es[o]?, es[j]? with
    | some (.inr (tt, z, .inr rs)), some (.inl (ci, _)) => if 0 ≤ i ∧ i < (z : Int) ∧ i ≤ 60000 ∧ (tt = 4 ∧ ci = 6 ∨ tt = 5 ∧ ci = 9 ∨ tt = 6 ∧ ci = 5) then some (pc + 1, es.set o (.inr (tt, z, .inr ((i.toNat, .inl j) :: rs))), L, S, mc, ms) else none
    | _, _ => none) else none
  | .invokespecial i, (pc, es, L, S, mc, ms) => if len = 3 then (if T.2.2.2.1.contains i = true then (match S with
      | .inr (.inr (some _)) :: S' => if 1 ≤ kc ∧ (S'.map kcat).sum ≤ 8 then some (pc + 3, es, L, S', mc, ms) else none
      | _ => none)
    else match klook T.2.2.2.2 i with
      | some (_, na, mc', ms', ci, k, fs0, res) => (match kpop na [] S with
        | some (as, .inr (.inr (some (.inl b0))) :: S') => (match kshl (kshc b0 as) res with
          | some es2 => if b0 + 1 = es.length ∧ kobj es b0 ci fs0 = true ∧ as.all kref = true ∧ k + 1 ≤ kc ∧ (S'.map kcat).sum ≤ 8 ∧ mc + mc' ≤ MC ∧ ms + ms' ≤ MS then some (pc + 3, es.take b0 ++ es2, L, S', mc + mc', ms + ms') else none
          | none => none)
        | _ => none)
      | none => none) else none
  | _, _ => none
