/-! STEPS: fields and rows -/
/-- a class's field links: (place, class, field, how it may be written: 0 int, 1 boolean, 2 long, 3 reference, 4 not) -/
abbrev XF : Type := List (Nat × Nat × Nat × Nat)
def xfl : XF → Nat → Option (Nat × Nat × Nat)
  | [], _ => none
  | (j, r) :: L, i => if j = i then some r else xfl L i
def FTok (b : Nat) (ty : FieldType) (fin : Bool) : Prop := match b with
  | 0 => ty = .int ∧ fin = false
  | 1 => ty = .boolean ∧ fin = false
  | 2 => ty = .long ∧ fin = false
  | 3 => (∃ C, ty = .object C) ∧ fin = false
  | _ => True
def FL1 (own : String) (i ci k b : Nat) : Prop := ∃ (C : String) (T : u_T) (N : Nat) (ty0 : Nat → FieldType), vwCl[ci]? = some (C, T, N) ∧ (∀ w ∈ u_ws C T N, w ∈ Wd) ∧ (∀ k, k < N → parseFieldDescriptor (T k).2.2.1 = some (ty0 k)) ∧ (∀ a, a < N → ∀ b, b < N → a ≠ b → (T a).2.1 ≠ (T b).2.1) ∧ k < N ∧ Cond.fieldLink own i (T k).1 (T k).2.1 (T k).2.2.1 ∈ Wd ∧ FTok b (ty0 k) (T k).2.2.2
def FLok (own : String) (L : XF) : Prop := ∀ i ci k b, xfl L i = some (ci, k, b) → FL1 own i ci k b
theorem FLok.nil {own : String} : FLok own [] := fun i ci k b h => by cases h
theorem FLok.cons {own : String} {i ci k b : Nat} {L : XF} (h : FL1 own i ci k b) (h2 : FLok own L) : FLok own ((i, ci, k, b) :: L) := fun i' ci' k' b' q => by
  simp only [xfl] at q
  by_cases c : i = i'
  · rw [if_pos c] at q
    cases q
    subst c
    exact h
  · rw [if_neg c] at q
    exact h2 i' ci' k' b' q
/-- the place in V of an element -/
def klk : List (Nat × Nat) → Nat → Option Nat
  | [], _ => none
  | (i, j) :: r, k => if i = k then some j else klk r k
theorem klk_mem : ∀ {tk : List (Nat × Nat)} {k j : Nat}, klk tk k = some j → (k, j) ∈ tk
  | (i, j') :: r, k, j, h => by
    simp only [klk] at h
    by_cases c : i = k
    · rw [if_pos c] at h
      cases h
      subst c
      exact List.mem_cons_self
    · rw [if_neg c] at h
      exact List.mem_cons_of_mem _ (klk_mem h)
/-- what V tells and the kinds fit each other -/
def TW (E : XE) : Prop := (∀ (i κ ci : Nat) (ts : List XT) (k j : Nat), E.2.1[i]? = some κ → E.1[κ]? = some (.inl (ci, ts)) → ts[k]? = some (.inr (.inr j)) → E.2.2.2[j]? = some (i, k)) ∧
  (∀ (i κ tt z : Nat) (lo hi : Int) (tk : List (Nat × Nat)) (bl : List (Int × Int)) (k j : Nat), E.2.1[i]? = some κ → E.1[κ]? = some (.inr (tt, z, .inl (lo, hi, tk, bl))) → (k, j) ∈ tk → E.2.2.2[j]? = some (i, k)) ∧
  (∀ (j o k : Nat), E.2.2.2[j]? = some (o, k) → ∃ (κ : Nat), E.2.1[o]? = some κ ∧ ((∃ (ci : Nat) (ts : List XT), E.1[κ]? = some (.inl (ci, ts)) ∧ ts[k]? = some (.inr (.inr j))) ∨ (∃ (tt z : Nat) (lo hi : Int) (tk : List (Nat × Nat)) (bl : List (Int × Int)), E.1[κ]? = some (.inr (tt, z, .inl (lo, hi, tk, bl))) ∧ klk tk k = some j ∧ k < z ∧ tt ≠ 1)))
/-- what is kept hangs on guarded places and on what is not written -/
def PGS (E : XE) (xt : XX) (lo : Nat) : Prop := ∀ (f f' : Nat → va_E), (∀ (i κ k : Nat) (ps : List (Nat × Nat)), E.2.1[i]? = some κ → xwr E κ = some ps → (∃ q ∈ ps, q.1 ≤ k ∧ k < q.2) → cellv (f' (lo + i)) k = cellv (f (lo + i)) k) → (∀ (i κ : Nat), E.2.1[i]? = some κ → xwr E κ = none → f' (lo + i) = f (lo + i)) → xt.2 lo f → xt.2 lo f'
/-- what is kept tells bounds of places where another number is above a bound: (kind, place, place in V, bound, from, to) -/
def GB1 (E : XE) (xt : XX) (lo : Nat) : Prop := ∀ (f : Nat → va_E), xt.2 lo f → ∀ (κ p j : Nat) (q a b : Int), (κ, p, j, q, a, b) ∈ E.2.2.1.2 → ∀ (i o k : Nat) (w : Int32) (v : Value), E.2.1[i]? = some κ → E.2.2.2[j]? = some (o, k) → cellv (f (lo + o)) k = some (.int w) → q < w.toInt → cellv (f (lo + i)) p = some v → a ≤ gv v ∧ gv v ≤ b
def TWX (E : XE) (xt : XX) (lo : Nat) : Prop := TW E ∧ PGS E xt lo ∧ GB1 E xt lo
/-- a field that may be written -/
def xwk (E : XE) (κ k : Nat) : Bool := match xwr E κ with
  | some ps => ps.all (fun q => decide (k < q.1) || decide (q.2 ≤ k))
  | none => false
/-- places that may be written -/
def xwp (E : XE) (gi : List XI) (κ : Nat) (n : XN) : Bool := match xwr E κ, xiv gi n with
  | some ps, some (a, b) => ps.all (fun q => decide (b < (q.1 : Int)) || decide ((q.2 : Int) ≤ a))
  | _, _ => false
/-- bounds by what is kept -/
def xgd (E : XE) (gi : List XI) (V : List XV) (κ : Nat) (n : XN) : List (Nat × Nat × Nat × Int × Int × Int) → Option (Int × Int)
  | [] => none
  | (κ', p, j, q, a, b) :: r => if κ' = κ ∧ n = (none, (p : Int)) then (match V[j]?, E.2.2.2[j]? with
    | some (.inl (.inl w)), some _ => (match xiv gi w with
      | some (l, _) => if q < l then some (a, b) else xgd E gi V κ n r
      | none => xgd E gi V κ n r)
    | _, _ => xgd E gi V κ n r) else xgd E gi V κ n r
/-- a value within what a field may hold -/
def xin (gi : List XI) (T : XT) (b : Nat) (v : XV) : Bool := match T, v with
  | .inl (.inl (lo, hi)), .inl (.inl n) => match xiv gi n with
    | some (a, c) => decide (lo ≤ a) && decide (c ≤ hi) && (b == 0 || (b == 1 && decide (0 ≤ a) && decide (c ≤ 1)))
    | none => false
  | .inl (.inr (lo, hi)), .inl (.inr n) => match xiv gi n with
    | some (a, c) => decide (lo ≤ a) && decide (c ≤ hi) && b == 2
    | none => false
  | .inr (.inl k), .inr (.inl k') => k == k' && b == 3
  | .inr (.inr _), .inl (.inl n) => match xiv gi n with
    | some (a, c) => b == 0 || (b == 1 && decide (0 ≤ a) && decide (c ≤ 1))
    | none => false
  | .inr (.inr _), .inr (.inl _) => b == 3
  | _, _ => false
def xty (gi : List XI) (V : List XV) (T : XT) : Option (List XI × XV) := match T with
  | .inl (.inl (lo, hi)) => some ((xmk gi lo hi none).1, .inl (.inl (xmk gi lo hi none).2))
  | .inl (.inr (lo, hi)) => some ((xmk gi lo hi none).1, .inl (.inr (xmk gi lo hi none).2))
  | .inr (.inl k) => some (gi, .inr (.inl k))
  | .inr (.inr j) => match V[j]? with
    | some v => some (gi, v)
    | none => none
/-- a place within a row -/
def xat (gi : List XI) (n : XN) (z : Nat) : Bool := match xiv gi n with
  | some (a, b) => decide (0 ≤ a) && decide (b < (z : Int))
  | none => false
def xrefs (pc : Nat) (gi : List XI) (n : XN) (L : List (Nat × XV)) (S V : List XV) : Nat → List Nat → List XC
  | _, [] => []
  | i, k :: ks => (match xcut gi n (i : Int) (i : Int) with | some g => [(pc + 1, g, L, .inr (.inl k) :: S, V)] | none => []) ++ xrefs pc gi n L S V (i + 1) ks
/-- the bounds of a place -/
def rbn (n : XN) (lo hi : Int) (bl : List (Int × Int)) : Int × Int := match n with
  | (none, c) => (match bl[c.toNat]? with
    | some b => b
    | none => (lo, hi))
  | _ => (lo, hi)
def xrb (E : XE) (gi : List XI) (V : List XV) (κ : Nat) (n : XN) (lo hi : Int) (bl : List (Int × Int)) : Int × Int := match xgd E gi V κ n E.2.2.1.2 with
  | some b => b
  | none => rbn n lo hi bl
def xfpl (a b c d : Int) : Nat → List (Int × Int) → Bool
  | _, [] => true
  | k, (l, u) :: r => (decide ((k : Int) < a) || decide (b < (k : Int)) || (decide (l ≤ c) && decide (d ≤ u))) && xfpl a b c d (k + 1) r
/-- a number fits every place that may be meant -/
def xfp (gi : List XI) (n v : XN) (bl : List (Int × Int)) : Bool := bl.isEmpty || (match xiv gi n, xiv gi v with
  | some (a, b), some (c, d) => xfpl a b c d 0 bl
  | _, _ => false)
theorem xfpl_ok {a b c d : Int} : ∀ {bl : List (Int × Int)} {k i : Nat} {l u : Int}, xfpl a b c d k bl = true → bl[i]? = some (l, u) → a ≤ ((k + i : Nat) : Int) → ((k + i : Nat) : Int) ≤ b → l ≤ c ∧ d ≤ u
  | [], k, i, l, u, _, h, _, _ => by simp at h
  | (l', u') :: r, k, 0, l, u, h, hi, h1, h2 => by
    simp only [List.getElem?_cons_zero, Option.some.injEq, Prod.mk.injEq] at hi
    obtain ⟨rfl, rfl⟩ := hi
    simp only [xfpl, Bool.and_eq_true, Bool.or_eq_true, decide_eq_true_eq] at h
    omega
  | (l', u') :: r, k, i + 1, l, u, h, hi, h1, h2 => by
    simp only [xfpl, Bool.and_eq_true] at h
    exact xfpl_ok h.2 (by simpa using hi) (by omega) (by omega)
theorem xfp_ok {Gs : List Int} {gi : List XI} {n v : XN} {bl : List (Int × Int)} {i y : Int} (h : xfp gi n v bl = true) (hg : gok Gs gi) (hn : xval Gs n = some i) (hv : xval Gs v = some y) {k : Nat} (hk : (k : Int) = i) {b : Int × Int} (hb : bl[k]? = some b) : b.1 ≤ y ∧ y ≤ b.2 := by
  unfold xfp at h
  simp only [Bool.or_eq_true] at h
  rcases h with h | h
  · rw [List.isEmpty_iff] at h
    subst h
    simp at hb
  · split at h
    · rename_i a b' c d e1 e2
      obtain ⟨l, u⟩ := b
      have q1 := xiv_ok hg e1 hn
      have q2 := xiv_ok hg e2 hv
      have := xfpl_ok h hb (by omega) (by omega)
      simp only
      omega
    · cases h
theorem rbn_ok {Gs : List Int} {n : XN} {lo hi : Int} {bl : List (Int × Int)} {g : Nat → Int32} {z k : Nat} {i : Int} (e2 : ∀ i, i < z → lo ≤ (g i).toInt ∧ (g i).toInt ≤ hi) (e3 : BL bl g) (hk : k < z) (hi' : (k : Int) = i) (hn : xval Gs n = some i) : (rbn n lo hi bl).1 ≤ (g k).toInt ∧ (g k).toInt ≤ (rbn n lo hi bl).2 := by
  obtain ⟨m, c⟩ := n
  cases m with
  | none =>
    simp only [xval, Option.some.injEq] at hn
    have : c.toNat = k := by omega
    simp only [rbn, this]
    cases hb : bl[k]? with
    | none => exact e2 k hk
    | some b => exact e3 k b hb
  | some m => exact e2 k hk
theorem BL_upd {bl : List (Int × Int)} {g : Nat → Int32} {p : Nat} {y : Int32} (h : BL bl g) (hy : ∀ b, bl[p]? = some b → b.1 ≤ y.toInt ∧ y.toInt ≤ b.2) : BL bl (upd g p y) := by
  intro i b hb
  by_cases c : i = p
  · subst c
    rw [show upd g i y i = y by simp [upd]]
    exact hy b hb
  · rw [pk_un c]
    exact h i b hb
/-- the element that V tells, where the place is a constant -/
def xtrk (n : XN) (tk : List (Nat × Nat)) : Option Nat := match n with
  | (none, c) => if 0 ≤ c then klk tk c.toNat else none
  | _ => none
def xldr (pc : Nat) (gi : List XI) (n : XN) (lo hi : Int) (tk : List (Nat × Nat)) (L : List (Nat × XV)) (S V : List XV) : Option (List XC) := match xtrk n tk with
  | some j => match V[j]? with
    | some v => some [(pc + 1, gi, L, v :: S, V)]
    | none => none
  | none => some [(pc + 1, (xmk gi lo hi none).1, L, .inl (.inl (xmk gi lo hi none).2) :: S, V)]
/-- V behind a store at a place that is not known: what it may have touched is within the row's bounds -/
def xforg (a b lo hi : Int) : List (Nat × Nat) → List XI → List XV → List XI × List XV
  | [], gi, V => (gi, V)
  | (k, j) :: tk, gi, V => if a ≤ (k : Int) ∧ (k : Int) ≤ b then xforg a b lo hi tk (xmk gi lo hi none).1 (V.set j (.inl (.inl (xmk gi lo hi none).2))) else xforg a b lo hi tk gi V
def xstr (pc : Nat) (gi : List XI) (n v : XN) (lo hi : Int) (tk : List (Nat × Nat)) (L : List (Nat × XV)) (S V : List XV) : Option (List XC) := match n.1 with
  | none => (match xtrk n tk with
    | some j => some [(pc + 1, gi, L, S, V.set j (.inl (.inl v)))]
    | none => some [(pc + 1, gi, L, S, V)])
  | some _ => match xiv gi n with
    | some (a, b) => some [(pc + 1, (xforg a b lo hi tk gi V).1, L, S, (xforg a b lo hi tk gi V).2)]
    | none => none
def stepD (E : XE) (fl : XF) (ins : Instr) (x : XC) : Option (List XC) := match ins with
  | .getfield i => match x with
    | (pc, gi, L, .inr (.inl κ) :: S, V) => match xfl fl i, E.1[κ]? with
      | some (ci, k, _), some (.inl (ci', ts)) => if ci = ci' then (match ts[k]? with
        | some T => match xty gi V T with
          | some (gi', v) => some [(pc + 3, gi', L, v :: S, V)]
          | none => none
        | none => none) else none
      | _, _ => none
    | _ => none
  | .putfield i => match x with
    | (pc, gi, L, v :: .inr (.inl κ) :: S, V) => match xfl fl i, E.1[κ]? with
      | some (ci, k, b), some (.inl (ci', ts)) => if ci = ci' ∧ xwk E κ k = true then (match ts[k]? with
        | some T => if xin gi T b v = true then (match T with
          | .inr (.inr j) => some [(pc + 3, gi, L, S, V.set j v)]
          | _ => some [(pc + 3, gi, L, S, V)]) else none
        | none => none) else none
      | _, _ => none
    | _ => none
  | .arraylength => match x with
    | (pc, gi, L, .inr (.inl κ) :: S, V) => match E.1[κ]? with
      | some (.inr (tt, z, _)) => if tt < 7 ∧ z < 2147483648 then some [(pc + 1, gi, L, .inl (.inl (none, (z : Int))) :: S, V)] else none
      | _ => none
    | _ => none
  | .iaload => match x with
    | (pc, gi, L, .inl (.inl n) :: .inr (.inl κ) :: S, V) => match E.1[κ]? with
      | some (.inr (0, z, .inl (lo, hi, tk, bl))) => if xat gi n z = true then xldr pc gi n (xrb E gi V κ n lo hi bl).1 (xrb E gi V κ n lo hi bl).2 tk L S V else none
      | _ => none
    | _ => none
  | .baload => match x with
    | (pc, gi, L, .inl (.inl n) :: .inr (.inl κ) :: S, V) => match E.1[κ]? with
      | some (.inr (2, z, .inl (lo, hi, tk, bl))) => if xat gi n z = true then xldr pc gi n (xrb E gi V κ n lo hi bl).1 (xrb E gi V κ n lo hi bl).2 tk L S V else none
      | some (.inr (3, z, .inl (lo, hi, tk, bl))) => if xat gi n z = true then xldr pc gi n (xrb E gi V κ n lo hi bl).1 (xrb E gi V κ n lo hi bl).2 tk L S V else none
      | _ => none
    | _ => none
  | .laload => match x with
    | (pc, gi, L, .inl (.inl n) :: .inr (.inl κ) :: S, V) => match E.1[κ]? with
      | some (.inr (1, z, .inl (lo, hi, tk, bl))) => if xat gi n z = true then some [(pc + 1, (xmk gi (xrb E gi V κ n lo hi []).1 (xrb E gi V κ n lo hi []).2 none).1, L, .inl (.inr (xmk gi (xrb E gi V κ n lo hi []).1 (xrb E gi V κ n lo hi []).2 none).2) :: S, V)] else none
      | _ => none
    | _ => none
  | .aaload => match x with
    | (pc, gi, L, .inl (.inl n) :: .inr (.inl κ) :: S, V) => match E.1[κ]? with
      | some (.inr (tt, z, .inr ks)) => if xat gi n z = true ∧ 4 ≤ tt ∧ tt < 7 then (match ks with
        | [] => none
        | k :: ks' => if ks'.all (fun q => q == k) = true then some [(pc + 1, gi, L, .inr (.inl k) :: S, V)] else some (xrefs pc gi n L S V 0 (k :: ks'))) else none
      | _ => none
    | _ => none
  | .iastore => match x with
    | (pc, gi, L, .inl (.inl v) :: .inl (.inl n) :: .inr (.inl κ) :: S, V) => match E.1[κ]? with
      | some (.inr (0, z, .inl (lo, hi, tk, bl))) => if (xat gi n z && xfp gi n v bl) = true ∧ xwp E gi κ n = true ∧ xin gi (.inl (.inl (lo, hi))) 0 (.inl (.inl v)) = true then xstr pc gi n v lo hi tk L S V else none
      | _ => none
    | _ => none
  | .bastore => match x with
    | (pc, gi, L, .inl (.inl v) :: .inl (.inl n) :: .inr (.inl κ) :: S, V) => match E.1[κ]? with
      | some (.inr (2, z, .inl (lo, hi, tk, bl))) => if (xat gi n z && xfp gi n v bl) = true ∧ xwp E gi κ n = true ∧ xin gi (.inl (.inl (lo, hi))) 0 (.inl (.inl v)) = true ∧ xin gi (.inl (.inl (-128, 127))) 0 (.inl (.inl v)) = true then xstr pc gi n v lo hi tk L S V else none
      | some (.inr (3, z, .inl (lo, hi, tk, bl))) => if (xat gi n z && xfp gi n v bl) = true ∧ xwp E gi κ n = true ∧ xin gi (.inl (.inl (lo, hi))) 0 (.inl (.inl v)) = true ∧ xin gi (.inl (.inl (0, 1))) 0 (.inl (.inl v)) = true then xstr pc gi n v lo hi tk L S V else none
      | _ => none
    | _ => none
  | .lastore => match x with
    | (pc, gi, L, .inl (.inr v) :: .inl (.inl n) :: .inr (.inl κ) :: S, V) => match E.1[κ]? with
      | some (.inr (1, z, .inl (lo, hi, tk, bl))) => if xat gi n z = true ∧ xwp E gi κ n = true ∧ xin gi (.inl (.inr (lo, hi))) 2 (.inl (.inr v)) = true then some [(pc + 1, gi, L, S, V)] else none
      | _ => none
    | _ => none
  | _ => none
theorem bool_01 {v : Int32} (h1 : 0 ≤ v.toInt) (h2 : v.toInt ≤ 1) : v = 0 ∨ v = 1 := by
  have z : (0 : Int32).toInt = 0 := rfl
  have o : (1 : Int32).toInt = 1 := rfl
  rcases (show v.toInt = 0 ∨ v.toInt = 1 by omega) with q | q
  · exact Or.inl (Int32.toInt_inj.mp (by rw [q, z]))
  · exact Or.inr (Int32.toInt_inj.mp (by rw [q, o]))
/-- a value that fits: it is kept as it is, and fits the field -/
theorem xin_ok {B : Nat → Nat → Prop} {Gs : List Int} {gi : List XI} {T : XT} {b : Nat} {y : XV} {v : Value} {ty : FieldType} {fin : Bool} (h : xin gi T b y = true) (hg : gok Gs gi) (hv : xok B Gs y v) (ht : FTok b ty fin) : tok B T v ∧ narrow ty v = v ∧ fits ty v = true ∧ fin = false := by
  have num : ∀ (n : XN) (i : Int32) (a c : Int), xval Gs n = some i.toInt → xiv gi n = some (a, c) → (b = 0 ∨ (b = 1 ∧ 0 ≤ a) ∧ c ≤ 1) → narrow ty (.int i) = .int i ∧ fits ty (.int i) = true ∧ fin = false := by
    intro n i a c h1 h2 h3
    have q := xiv_ok hg h2 h1
    rcases h3 with h3 | ⟨⟨h3, h4⟩, h5⟩
    · subst h3
      obtain ⟨rfl, rfl⟩ := ht
      exact ⟨rfl, rfl, rfl⟩
    · subst h3
      obtain ⟨rfl, rfl⟩ := ht
      rcases bool_01 (v := i) (by omega) (by omega) with rfl | rfl
      · exact ⟨rfl, rfl, rfl⟩
      · exact ⟨rfl, rfl, rfl⟩
  match T, y, h, hv with
  | .inl (.inl (lo, hi)), .inl (.inl n), h, ⟨i, e, hi'⟩ =>
    subst e
    simp only [xin] at h
    cases hx : xiv gi n with
    | none => rw [hx] at h; cases h
    | some q =>
      obtain ⟨a, c⟩ := q
      rw [hx] at h
      simp only [Bool.and_eq_true, decide_eq_true_eq, Bool.or_eq_true, beq_iff_eq] at h
      have q := xiv_ok hg hx hi'
      exact ⟨⟨i, rfl, by omega, by omega⟩, num n i a c hi' hx h.2⟩
  | .inl (.inr (lo, hi)), .inl (.inr n), h, ⟨i, e, hi'⟩ =>
    subst e
    simp only [xin] at h
    cases hx : xiv gi n with
    | none => rw [hx] at h; cases h
    | some q =>
      obtain ⟨a, c⟩ := q
      rw [hx] at h
      simp only [Bool.and_eq_true, decide_eq_true_eq, beq_iff_eq] at h
      have q := xiv_ok hg hx hi'
      obtain ⟨h1, h2⟩ := h
      subst h2
      obtain ⟨rfl, rfl⟩ := ht
      exact ⟨⟨i, rfl, by omega, by omega⟩, rfl, rfl, rfl⟩
  | .inr (.inl k), .inr (.inl k'), h, ⟨a, e, ha⟩ =>
    subst e
    simp only [xin, Bool.and_eq_true, beq_iff_eq] at h
    obtain ⟨h1, h2⟩ := h
    subst h1; subst h2
    obtain ⟨⟨C, rfl⟩, rfl⟩ := ht
    exact ⟨⟨a, rfl, ha⟩, rfl, rfl, rfl⟩
  | .inr (.inr j), .inl (.inl n), h, ⟨i, e, hi'⟩ =>
    subst e
    simp only [xin] at h
    cases hx : xiv gi n with
    | none => rw [hx] at h; cases h
    | some q =>
      obtain ⟨a, c⟩ := q
      rw [hx] at h
      simp only [Bool.and_eq_true, decide_eq_true_eq, Bool.or_eq_true, beq_iff_eq] at h
      exact ⟨trivial, num n i a c hi' hx h⟩
  | .inr (.inr j), .inr (.inl k), h, ⟨a, e, ha⟩ =>
    subst e
    simp only [xin, beq_iff_eq] at h
    subst h
    obtain ⟨⟨C, rfl⟩, rfl⟩ := ht
    exact ⟨trivial, rfl, rfl, rfl⟩
theorem xat_ok {Gs : List Int} {gi : List XI} {n : XN} {z : Nat} {i : Int32} (h : xat gi n z = true) (hg : gok Gs gi) (hv : xval Gs n = some i.toInt) : vp_in i z ∧ i.toNatClampNeg < z ∧ (i.toNatClampNeg : Int) = i.toInt := by
  unfold xat at h
  cases hx : xiv gi n with
  | none => rw [hx] at h; cases h
  | some q =>
    obtain ⟨a, c⟩ := q
    rw [hx] at h
    simp only [Bool.and_eq_true, decide_eq_true_eq] at h
    have q := xiv_ok hg hx hv
    have e : (i.toNatClampNeg : Int) = i.toInt := by
      show ((i.toInt.toNat : Nat) : Int) = i.toInt
      omega
    exact ⟨vp_in_iff.mpr ⟨by omega, by omega⟩, by omega, e⟩
