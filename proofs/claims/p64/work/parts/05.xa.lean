/-! ABSTRACT NUMBERS. A number is a constant, or a ghost and what is added to it; a ghost has bounds, and may have another number that is not below it, or be the difference of two. -/
abbrev XN : Type := Option Nat × Int
/-- of a ghost: not above a number, not below one, the difference of two; a bit of it (and what is added) is 1 -/
abbrev XJ : Type := (XN ⊕ XN) ⊕ ((XN × XN) ⊕ (Nat × Int))
abbrev XI : Type := Int × Int × List XJ
def xval (Gs : List Int) (n : XN) : Option Int := match n.1 with
  | none => some n.2
  | some g => (Gs[g]?).map (fun z => z + n.2)
def xrel (Gs : List Int) (z : Int) (r : XJ) : Prop := match r with
  | .inl (.inl u) => ∃ w, xval Gs u = some w ∧ z ≤ w
  | .inl (.inr u) => ∃ w, xval Gs u = some w ∧ w ≤ z
  | .inr (.inl (u, v)) => ∃ a b, xval Gs u = some a ∧ xval Gs v = some b ∧ z = a - b
  | .inr (.inr (k, c)) => 0 ≤ z + c ∧ (z + c).toNat.testBit k = true
def gok (Gs : List Int) (gi : List XI) : Prop := Gs.length = gi.length ∧ ∀ (i : Nat) (lo hi : Int) (r : List XJ) (z : Int), gi[i]? = some (lo, hi, r) → Gs[i]? = some z → lo ≤ z ∧ z ≤ hi ∧ ∀ u, u ∈ r → xrel Gs z u
def xiv (gi : List XI) (n : XN) : Option (Int × Int) := match n.1 with
  | none => some (n.2, n.2)
  | some g => match gi[g]? with
    | some (lo, hi, _) => some (lo + n.2, hi + n.2)
    | none => none
def xmk (gi : List XI) (lo hi : Int) (r : Option XJ) : List XI × XN := if lo = hi then (gi, (none, lo)) else (gi ++ [(lo, hi, r.toList)], (some gi.length, 0))
theorem xval_mono {Gs t : List Int} {n : XN} {z : Int} (h : xval Gs n = some z) : xval (Gs ++ t) n = some z := by
  obtain ⟨g, c⟩ := n
  cases g with
  | none => exact h
  | some g =>
    simp only [xval] at h ⊢
    cases hg : Gs[g]? with
    | none => rw [hg] at h; cases h
    | some y =>
      rw [hg] at h
      have hlt : g < Gs.length := (List.getElem?_eq_some_iff.mp hg).1
      rw [List.getElem?_append_left hlt, hg]
      exact h
theorem xrel_mono {Gs t : List Int} {z : Int} {r : XJ} (h : xrel Gs z r) : xrel (Gs ++ t) z r := by
  match r, h with
  | .inl (.inl u), ⟨w, a, b⟩ => exact ⟨w, xval_mono a, b⟩
  | .inl (.inr u), ⟨w, a, b⟩ => exact ⟨w, xval_mono a, b⟩
  | .inr (.inl (u, v)), ⟨a, b, h1, h2, h3⟩ => exact ⟨a, b, xval_mono h1, xval_mono h2, h3⟩
  | .inr (.inr (k, c)), h => exact h
theorem xiv_ok {Gs : List Int} {gi : List XI} {n : XN} {a b z : Int} (h : gok Gs gi) (hi : xiv gi n = some (a, b)) (hv : xval Gs n = some z) : a ≤ z ∧ z ≤ b := by
  obtain ⟨g, c⟩ := n
  cases g with
  | none =>
    simp only [xiv, xval, Option.some.injEq, Prod.mk.injEq] at hi hv
    omega
  | some g =>
    simp only [xiv, xval] at hi hv
    cases hg : gi[g]? with
    | none => rw [hg] at hi; cases hi
    | some e =>
      obtain ⟨lo, hi', r⟩ := e
      rw [hg] at hi
      simp only [Option.some.injEq, Prod.mk.injEq] at hi
      cases hz : Gs[g]? with
      | none => rw [hz] at hv; cases hv
      | some y =>
        rw [hz] at hv
        simp only [Option.map_some, Option.some.injEq] at hv
        have := h.2 g lo hi' r y hg hz
        omega
theorem xmk_ok {Gs : List Int} {gi : List XI} {lo hi z : Int} {r : Option XJ} (h : gok Gs gi) (h1 : lo ≤ z) (h2 : z ≤ hi) (hr : ∀ u, r = some u → xrel Gs z u) : ∃ t, gok (Gs ++ t) (xmk gi lo hi r).1 ∧ xval (Gs ++ t) (xmk gi lo hi r).2 = some z := by
  unfold xmk
  by_cases e : lo = hi
  · rw [if_pos e]
    exact ⟨[], by simpa using h, by simp only [xval]; congr 1; omega⟩
  · rw [if_neg e]
    refine ⟨[z], ⟨by simp [h.1], fun i lo' hi' r' z' hi hz => ?_⟩, ?_⟩
    · by_cases hlt : i < gi.length
      · rw [List.getElem?_append_left hlt] at hi
        rw [List.getElem?_append_left (by rw [h.1]; exact hlt)] at hz
        obtain ⟨q1, q2, q3⟩ := h.2 i lo' hi' r' z' hi hz
        exact ⟨q1, q2, fun u hu => xrel_mono (q3 u hu)⟩
      · have hi2 : i = gi.length := by
          have := (List.getElem?_eq_some_iff.mp hi).1
          simp at this
          omega
        subst hi2
        simp at hi
        rw [← h.1] at hz
        simp at hz
        obtain ⟨rfl, rfl, rfl⟩ := hi
        subst hz
        exact ⟨h1, h2, fun u hu => xrel_mono (hr u (Option.mem_toList.mp hu))⟩
    · simp only [xval]
      rw [← h.1]
      simp
theorem xmk_ok0 {Gs : List Int} {gi : List XI} {lo hi z : Int} (h : gok Gs gi) (h1 : lo ≤ z) (h2 : z ≤ hi) : ∃ t, gok (Gs ++ t) (xmk gi lo hi none).1 ∧ xval (Gs ++ t) (xmk gi lo hi none).2 = some z := xmk_ok h h1 h2 (fun u hu => by cases hu)
/-- narrowing a number to bounds; none: there is no such -/
def xcut (gi : List XI) (n : XN) (lo hi : Int) : Option (List XI) := match n.1 with
  | none => if lo ≤ n.2 ∧ n.2 ≤ hi then some gi else none
  | some g => match gi[g]? with
    | none => none
    | some (l, h, r) => if max l (lo - n.2) ≤ min h (hi - n.2) then some (gi.set g (max l (lo - n.2), min h (hi - n.2), r)) else none
theorem xcut_ok {Gs : List Int} {gi : List XI} {n : XN} {lo hi z a b : Int} (h : gok Gs gi) (hb : xiv gi n = some (a, b)) (hv : xval Gs n = some z) (h1 : lo ≤ z) (h2 : z ≤ hi) : ∃ gi', xcut gi n lo hi = some gi' ∧ gok Gs gi' := by
  obtain ⟨g, c⟩ := n
  cases g with
  | none =>
    simp only [xval, Option.some.injEq] at hv
    refine ⟨gi, ?_, h⟩
    simp only [xcut]
    rw [if_pos (by omega)]
  | some g =>
    simp only [xcut, xiv, xval] at hb hv ⊢
    cases hg : gi[g]? with
    | none => rw [hg] at hb; cases hb
    | some e =>
      obtain ⟨l, u, r⟩ := e
      cases hz : Gs[g]? with
      | none => rw [hz] at hv; cases hv
      | some y =>
        rw [hz] at hv
        simp only [Option.map_some, Option.some.injEq] at hv
        have q := h.2 g l u r y hg hz
        have hm : max l (lo - c) ≤ min u (hi - c) := by omega
        simp only
        rw [if_pos hm]
        refine ⟨_, rfl, by simp [h.1], fun i lo' up' r' z' hi' hz' => ?_⟩
        rw [List.getElem?_set] at hi'
        by_cases hgi : g = i
        · subst hgi
          have hlt : g < gi.length := (List.getElem?_eq_some_iff.mp hg).1
          rw [if_pos rfl, if_pos hlt] at hi'
          rw [hz] at hz'
          cases hz'
          simp only [Option.some.injEq, Prod.mk.injEq] at hi'
          obtain ⟨rfl, rfl, rfl⟩ := hi'
          exact ⟨by omega, by omega, q.2.2⟩
        · rw [if_neg hgi] at hi'
          exact h.2 i lo' up' r' z' hi' hz'
theorem xiv_def {Gs : List Int} {gi : List XI} {n : XN} {z : Int} (h : gok Gs gi) (hv : xval Gs n = some z) : ∃ a b, xiv gi n = some (a, b) ∧ a ≤ z ∧ z ≤ b := by
  have key : ∃ a b, xiv gi n = some (a, b) := by
    obtain ⟨g, c⟩ := n
    cases g with
    | none => exact ⟨_, _, rfl⟩
    | some g =>
      simp only [xval] at hv
      cases hz : Gs[g]? with
      | none => rw [hz] at hv; cases hv
      | some y =>
        have hlt : g < gi.length := by rw [← h.1]; exact (List.getElem?_eq_some_iff.mp hz).1
        simp only [xiv]
        rw [List.getElem?_eq_getElem hlt]
        exact ⟨_, _, rfl⟩
  obtain ⟨a, b, e⟩ := key
  exact ⟨a, b, e, xiv_ok h e hv⟩
def xdif : List XJ → Option (XN × XN)
  | [] => none
  | .inr (.inl p) :: _ => some p
  | _ :: r => xdif r
theorem xdif_in : ∀ {r : List XJ} {p : XN × XN}, xdif r = some p → .inr (.inl p) ∈ r
  | .inr (.inl q) :: r, p, h => by
    simp only [xdif, Option.some.injEq] at h
    subst h
    exact List.mem_cons_self
  | .inl _ :: r, p, h => List.mem_cons_of_mem _ (xdif_in (by simpa [xdif] using h))
  | .inr (.inr _) :: r, p, h => List.mem_cons_of_mem _ (xdif_in (by simpa [xdif] using h))
/-- narrowing, and then the two of whom it is the difference -/
def xcutR (gi : List XI) (n : XN) (lo hi : Int) : Option (List XI) := match xcut gi n lo hi with
  | none => none
  | some g => match n.1 with
    | none => some g
    | some k => match g[k]? with
      | some (l, h, r) => (match xdif r with
        | some (u, v) => (match xiv g u, xiv g v with
          | some p, some q => (match xcut g v (p.1 - h) (p.2 - l) with
            | none => none
            | some g2 => xcut g2 u (q.1 + l) (q.2 + h))
          | _, _ => none)
        | none => some g)
      | none => some g
theorem xcutR_ok {Gs : List Int} {gi : List XI} {n : XN} {lo hi z a b : Int} (h : gok Gs gi) (hb : xiv gi n = some (a, b)) (hv : xval Gs n = some z) (h1 : lo ≤ z) (h2 : z ≤ hi) : ∃ gi', xcutR gi n lo hi = some gi' ∧ gok Gs gi' := by
  obtain ⟨g, g1, g2⟩ := xcut_ok h hb hv h1 h2
  simp only [xcutR, g1]
  split
  · exact ⟨g, rfl, g2⟩
  · rename_i k hk
    split
    · rename_i l u' rr hg
      split
      rotate_left
      · exact ⟨g, rfl, g2⟩
      rename_i p q hxd
      obtain ⟨nk, nc⟩ := n
      simp only at hk
      subst hk
      simp only [xval] at hv
      cases hz : Gs[k]? with
      | none => rw [hz] at hv; cases hv
      | some y =>
        obtain ⟨b1, b2, b3⟩ := g2.2 k l u' _ y hg hz
        obtain ⟨x1, x2, e1, e2, e3⟩ := b3 _ (xdif_in hxd)
        obtain ⟨p1, p2, f1, f2, f3⟩ := xiv_def g2 e1
        obtain ⟨q1, q2, f4, f5, f6⟩ := xiv_def g2 e2
        rw [f1, f4]
        simp only
        obtain ⟨g3, g4, g5⟩ := xcut_ok (lo := p1 - u') (hi := p2 - l) g2 f4 e2 (by omega) (by omega)
        rw [g4]
        simp only
        obtain ⟨r1, r2, f7, -, -⟩ := xiv_def g5 e1
        exact xcut_ok g5 f7 e1 (by omega) (by omega)
    · exact ⟨g, rfl, g2⟩
abbrev lo32 : Int := -2147483648
abbrev hi32 : Int := 2147483647
abbrev lo64 : Int := -9223372036854775808
abbrev hi64 : Int := 9223372036854775807
theorem i32_b (x : Int32) : lo32 ≤ x.toInt ∧ x.toInt ≤ hi32 := by
  have h1 := x.le_toInt
  have h2 := x.toInt_lt
  simp only [lo32, hi32]
  omega
theorem i64_b (x : Int64) : lo64 ≤ x.toInt ∧ x.toInt ≤ hi64 := by
  have h1 := x.le_toInt
  have h2 := x.toInt_lt
  simp only [lo64, hi64]
  omega
theorem bm32 {z : Int} (h1 : lo32 ≤ z) (h2 : z ≤ hi32) : z.bmod (2 ^ 32) = z := by
  simp only [lo32, hi32] at h1 h2
  exact Int.bmod_eq_of_le (by omega) (by omega)
theorem bm64 {z : Int} (h1 : lo64 ≤ z) (h2 : z ≤ hi64) : z.bmod (2 ^ 64) = z := by
  simp only [lo64, hi64] at h1 h2
  exact Int.bmod_eq_of_le (by omega) (by omega)
theorem i32_of {x : Int32} {a : Int} (h : x.toInt = a) : Int32.ofInt a = x := by rw [← h]; exact Int32.ofInt_toInt x
theorem i64_of {x : Int64} {a : Int} (h : x.toInt = a) : Int64.ofInt a = x := by rw [← h]; exact Int64.ofInt_toInt x
/-- what an operation's answer is worth: bounds [lo, hi] of it -/
abbrev xall32 (gi : List XI) : List XI × XN := xmk gi lo32 hi32 none
abbrev xall64 (gi : List XI) : List XI × XN := xmk gi lo64 hi64 none
def Op32 (F : Int32 → Int32 → Int32) (op : List XI → XN → XN → Option (List XI × XN)) : Prop := ∀ (gi gi' : List XI) (a b r : XN) (Gs : List Int) (x y : Int32), op gi a b = some (gi', r) → gok Gs gi → xval Gs a = some x.toInt → xval Gs b = some y.toInt → ∃ t, gok (Gs ++ t) gi' ∧ xval (Gs ++ t) r = some (F x y).toInt
def Op64 (F : Int64 → Int64 → Int64) (op : List XI → XN → XN → Option (List XI × XN)) : Prop := ∀ (gi gi' : List XI) (a b r : XN) (Gs : List Int) (x y : Int64), op gi a b = some (gi', r) → gok Gs gi → xval Gs a = some x.toInt → xval Gs b = some y.toInt → ∃ t, gok (Gs ++ t) gi' ∧ xval (Gs ++ t) r = some (F x y).toInt
/-- both constants: the operation itself; else the rule -/
def xcc (F : Int32 → Int32 → Int32) (op : List XI → XN → XN → Option (List XI × XN)) (gi : List XI) (a b : XN) : Option (List XI × XN) := match a.1, b.1 with
  | none, none => some (gi, (none, (F (Int32.ofInt a.2) (Int32.ofInt b.2)).toInt))
  | _, _ => op gi a b
theorem xcc_ok {F : Int32 → Int32 → Int32} {op : List XI → XN → XN → Option (List XI × XN)} (h : Op32 F op) : Op32 F (xcc F op) := by
  intro gi gi' a b r Gs x y ho hg ha hb
  obtain ⟨ga, ca⟩ := a
  obtain ⟨gb, cb⟩ := b
  cases ga with
  | some g => exact h _ _ _ _ _ _ _ _ (by simpa [xcc] using ho) hg ha hb
  | none =>
    cases gb with
    | some g => exact h _ _ _ _ _ _ _ _ (by simpa [xcc] using ho) hg ha hb
    | none =>
      simp only [xcc, Option.some.injEq, Prod.mk.injEq, xval] at ho ha hb
      obtain ⟨rfl, rfl⟩ := ho
      refine ⟨[], by simpa using hg, ?_⟩
      simp only [xval]
      rw [i32_of ha.symm, i32_of hb.symm]
def xccL (F : Int64 → Int64 → Int64) (op : List XI → XN → XN → Option (List XI × XN)) (gi : List XI) (a b : XN) : Option (List XI × XN) := match a.1, b.1 with
  | none, none => some (gi, (none, (F (Int64.ofInt a.2) (Int64.ofInt b.2)).toInt))
  | _, _ => op gi a b
theorem xccL_ok {F : Int64 → Int64 → Int64} {op : List XI → XN → XN → Option (List XI × XN)} (h : Op64 F op) : Op64 F (xccL F op) := by
  intro gi gi' a b r Gs x y ho hg ha hb
  obtain ⟨ga, ca⟩ := a
  obtain ⟨gb, cb⟩ := b
  cases ga with
  | some g => exact h _ _ _ _ _ _ _ _ (by simpa [xccL] using ho) hg ha hb
  | none =>
    cases gb with
    | some g => exact h _ _ _ _ _ _ _ _ (by simpa [xccL] using ho) hg ha hb
    | none =>
      simp only [xccL, Option.some.injEq, Prod.mk.injEq, xval] at ho ha hb
      obtain ⟨rfl, rfl⟩ := ho
      refine ⟨[], by simpa using hg, ?_⟩
      simp only [xval]
      rw [i64_of ha.symm, i64_of hb.symm]
/-- a rule by bounds: the answer lies within what B says of the operands' bounds, if that is a number of the machine; else anywhere -/
def xby (lo hi : Int) (B : Int × Int → Int × Int → Option (Int × Int)) (gi : List XI) (a b : XN) : Option (List XI × XN) := match xiv gi a, xiv gi b with
  | some p, some q => match B p q with
    | some (u, v) => some (xmk gi u v none)
    | none => some (xmk gi lo hi none)
  | _, _ => none
theorem xby_ok {F : Int32 → Int32 → Int32} {B : Int × Int → Int × Int → Option (Int × Int)} (hB : ∀ (la ha lb hb u v : Int) (x y : Int32), B (la, ha) (lb, hb) = some (u, v) → la ≤ x.toInt → x.toInt ≤ ha → lb ≤ y.toInt → y.toInt ≤ hb → u ≤ (F x y).toInt ∧ (F x y).toInt ≤ v) : Op32 F (xby lo32 hi32 B) := by
  intro gi gi' a b r Gs x y ho hg ha hb
  unfold xby at ho
  cases h1 : xiv gi a with
  | none => rw [h1] at ho; cases ho
  | some p =>
    obtain ⟨la, ha'⟩ := p
    cases h2 : xiv gi b with
    | none => rw [h1, h2] at ho; cases ho
    | some q =>
      obtain ⟨lb, hb'⟩ := q
      rw [h1, h2] at ho
      have q1 := xiv_ok hg h1 ha
      have q2 := xiv_ok hg h2 hb
      cases h3 : B (la, ha') (lb, hb') with
      | none =>
        simp only [h3, Option.some.injEq] at ho
        have := i32_b (F x y)
        obtain ⟨t, t1, t2⟩ := xmk_ok0 (lo := lo32) (hi := hi32) hg this.1 this.2
        rw [ho] at t1 t2
        exact ⟨t, t1, t2⟩
      | some uv =>
        obtain ⟨u, v⟩ := uv
        simp only [h3, Option.some.injEq] at ho
        have := hB la ha' lb hb' u v x y h3 q1.1 q1.2 q2.1 q2.2
        obtain ⟨t, t1, t2⟩ := xmk_ok0 hg this.1 this.2
        rw [ho] at t1 t2
        exact ⟨t, t1, t2⟩
theorem xbyL_ok {F : Int64 → Int64 → Int64} {B : Int × Int → Int × Int → Option (Int × Int)} (hB : ∀ (la ha lb hb u v : Int) (x y : Int64), B (la, ha) (lb, hb) = some (u, v) → la ≤ x.toInt → x.toInt ≤ ha → lb ≤ y.toInt → y.toInt ≤ hb → u ≤ (F x y).toInt ∧ (F x y).toInt ≤ v) : Op64 F (xby lo64 hi64 B) := by
  intro gi gi' a b r Gs x y ho hg ha hb
  unfold xby at ho
  cases h1 : xiv gi a with
  | none => rw [h1] at ho; cases ho
  | some p =>
    obtain ⟨la, ha'⟩ := p
    cases h2 : xiv gi b with
    | none => rw [h1, h2] at ho; cases ho
    | some q =>
      obtain ⟨lb, hb'⟩ := q
      rw [h1, h2] at ho
      have q1 := xiv_ok hg h1 ha
      have q2 := xiv_ok hg h2 hb
      cases h3 : B (la, ha') (lb, hb') with
      | none =>
        simp only [h3, Option.some.injEq] at ho
        have := i64_b (F x y)
        obtain ⟨t, t1, t2⟩ := xmk_ok0 (lo := lo64) (hi := hi64) hg this.1 this.2
        rw [ho] at t1 t2
        exact ⟨t, t1, t2⟩
      | some uv =>
        obtain ⟨u, v⟩ := uv
        simp only [h3, Option.some.injEq] at ho
        have := hB la ha' lb hb' u v x y h3 q1.1 q1.2 q2.1 q2.2
        obtain ⟨t, t1, t2⟩ := xmk_ok0 hg this.1 this.2
        rw [ho] at t1 t2
        exact ⟨t, t1, t2⟩
/-- adding a constant keeps the ghost -/
def xaddc (lo hi : Int) (gi : List XI) (a : XN) (c : Int) : Option (List XI × XN) := match xiv gi a with
  | some (l, h) => if lo ≤ l + c ∧ h + c ≤ hi then some (gi, (a.1, a.2 + c)) else some (xmk gi lo hi none)
  | none => none
theorem xval_add {Gs : List Int} {a : XN} {z c : Int} (h : xval Gs a = some z) : xval Gs (a.1, a.2 + c) = some (z + c) := by
  obtain ⟨g, d⟩ := a
  cases g with
  | none => simp only [xval, Option.some.injEq] at h ⊢; omega
  | some g =>
    simp only [xval] at h ⊢
    cases hg : Gs[g]? with
    | none => rw [hg] at h; cases h
    | some y =>
      rw [hg] at h
      simp only [Option.map_some, Option.some.injEq] at h ⊢
      omega
theorem xaddc_ok {gi gi' : List XI} {a r : XN} {c : Int} {Gs : List Int} {x : Int32} {z : Int32} (ho : xaddc lo32 hi32 gi a c = some (gi', r)) (hg : gok Gs gi) (ha : xval Gs a = some x.toInt) (hz : z.toInt = (x.toInt + c).bmod (2 ^ 32)) : ∃ t, gok (Gs ++ t) gi' ∧ xval (Gs ++ t) r = some z.toInt := by
  unfold xaddc at ho
  cases h1 : xiv gi a with
  | none => rw [h1] at ho; cases ho
  | some p =>
    obtain ⟨l, h⟩ := p
    rw [h1] at ho
    have q := xiv_ok hg h1 ha
    simp only at ho
    by_cases hc : lo32 ≤ l + c ∧ h + c ≤ hi32
    · rw [if_pos hc] at ho
      simp only [Option.some.injEq, Prod.mk.injEq] at ho
      obtain ⟨rfl, rfl⟩ := ho
      refine ⟨[], by simpa using hg, ?_⟩
      rw [hz, bm32 (by omega) (by omega)]
      simpa using xval_add ha
    · rw [if_neg hc] at ho
      simp only [Option.some.injEq] at ho
      have := i32_b z
      obtain ⟨t, t1, t2⟩ := xmk_ok0 (lo := lo32) (hi := hi32) hg this.1 this.2
      rw [ho] at t1 t2
      exact ⟨t, t1, t2⟩
theorem xaddcL_ok {gi gi' : List XI} {a r : XN} {c : Int} {Gs : List Int} {x : Int64} {z : Int64} (ho : xaddc lo64 hi64 gi a c = some (gi', r)) (hg : gok Gs gi) (ha : xval Gs a = some x.toInt) (hz : z.toInt = (x.toInt + c).bmod (2 ^ 64)) : ∃ t, gok (Gs ++ t) gi' ∧ xval (Gs ++ t) r = some z.toInt := by
  unfold xaddc at ho
  cases h1 : xiv gi a with
  | none => rw [h1] at ho; cases ho
  | some p =>
    obtain ⟨l, h⟩ := p
    rw [h1] at ho
    have q := xiv_ok hg h1 ha
    simp only at ho
    by_cases hc : lo64 ≤ l + c ∧ h + c ≤ hi64
    · rw [if_pos hc] at ho
      simp only [Option.some.injEq, Prod.mk.injEq] at ho
      obtain ⟨rfl, rfl⟩ := ho
      refine ⟨[], by simpa using hg, ?_⟩
      rw [hz, bm64 (by omega) (by omega)]
      simpa using xval_add ha
    · rw [if_neg hc] at ho
      simp only [Option.some.injEq] at ho
      have := i64_b z
      obtain ⟨t, t1, t2⟩ := xmk_ok0 (lo := lo64) (hi := hi64) hg this.1 this.2
      rw [ho] at t1 t2
      exact ⟨t, t1, t2⟩
/-- bounds within the machine's, else none -/
def xfit (lo hi u v : Int) : Option (Int × Int) := if lo ≤ u ∧ v ≤ hi then some (u, v) else none
theorem xfit_eq {lo hi u v a b : Int} (h : xfit lo hi u v = some (a, b)) : a = u ∧ b = v ∧ lo ≤ u ∧ v ≤ hi := by
  unfold xfit at h
  by_cases c : lo ≤ u ∧ v ≤ hi
  · rw [if_pos c] at h
    simp only [Option.some.injEq, Prod.mk.injEq] at h
    exact ⟨h.1.symm, h.2.symm, c.1, c.2⟩
  · rw [if_neg c] at h; cases h
def xadd (gi : List XI) (a b : XN) : Option (List XI × XN) := match a.1, b.1 with
  | none, _ => xaddc lo32 hi32 gi b a.2
  | _, none => xaddc lo32 hi32 gi a b.2
  | _, _ => xby lo32 hi32 (fun p q => xfit lo32 hi32 (p.1 + q.1) (p.2 + q.2)) gi a b
theorem xadd_ok : Op32 (· + ·) xadd := by
  intro gi gi' a b r Gs x y ho hg ha hb
  obtain ⟨ga, ca⟩ := a
  obtain ⟨gb, cb⟩ := b
  cases ga with
  | none =>
    simp only [xadd] at ho
    simp only [xval, Option.some.injEq] at ha
    exact xaddc_ok ho hg hb (by rw [Int32.toInt_add, ha, Int.add_comm])
  | some g =>
    cases gb with
    | none =>
      simp only [xadd] at ho
      simp only [xval, Option.some.injEq] at hb
      exact xaddc_ok ho hg ha (by rw [Int32.toInt_add, hb])
    | some g2 =>
      simp only [xadd] at ho
      refine xby_ok (F := (· + ·)) ?_ _ _ _ _ _ _ _ _ ho hg ha hb
      intro la ha lb hb u v x y h q1 q2 q3 q4
      obtain ⟨rfl, rfl, c1, c2⟩ := xfit_eq h
      rw [Int32.toInt_add, bm32 (by omega) (by omega)]
      omega
def xsub (gi : List XI) (a b : XN) : Option (List XI × XN) := match b.1 with
  | none => xaddc lo32 hi32 gi a (- b.2)
  | _ => match xiv gi a, xiv gi b with
    | some p, some q => if lo32 ≤ p.1 - q.2 ∧ p.2 - q.1 ≤ hi32 then some (xmk gi (p.1 - q.2) (p.2 - q.1) (some (.inr (.inl (a, b))))) else some (xmk gi lo32 hi32 none)
    | _, _ => none
theorem xsub_ok : Op32 (· - ·) xsub := by
  intro gi gi' a b r Gs x y ho hg ha hb
  obtain ⟨gb, cb⟩ := b
  cases gb with
  | none =>
    simp only [xsub] at ho
    simp only [xval, Option.some.injEq] at hb
    exact xaddc_ok ho hg ha (by rw [Int32.toInt_sub, hb, Int.sub_eq_add_neg])
  | some g2 =>
    simp only [xsub] at ho
    cases h1 : xiv gi a with
    | none => rw [h1] at ho; cases ho
    | some p =>
      obtain ⟨la, ua⟩ := p
      cases h2 : xiv gi (some g2, cb) with
      | none => rw [h1, h2] at ho; cases ho
      | some q =>
        obtain ⟨lb, ub⟩ := q
        rw [h1, h2] at ho
        have q1 := xiv_ok hg h1 ha
        have q2 := xiv_ok hg h2 hb
        simp only at ho
        by_cases c1 : lo32 ≤ la - ub ∧ ua - lb ≤ hi32
        · rw [if_pos c1] at ho
          simp only [Option.some.injEq] at ho
          have e : (x - y).toInt = x.toInt - y.toInt := by rw [Int32.toInt_sub, bm32 (by omega) (by omega)]
          obtain ⟨t, t1, t2⟩ := xmk_ok (z := (x - y).toInt) (lo := la - ub) (hi := ua - lb) (r := some (.inr (.inl (a, (some g2, cb))))) hg (by omega) (by omega) (fun u hu => by cases hu; exact ⟨_, _, ha, hb, e⟩)
          rw [ho] at t1 t2
          exact ⟨t, t1, t2⟩
        · rw [if_neg c1] at ho
          simp only [Option.some.injEq] at ho
          have := i32_b (x - y)
          obtain ⟨t, t1, t2⟩ := xmk_ok0 (lo := lo32) (hi := hi32) hg this.1 this.2
          rw [ho] at t1 t2
          exact ⟨t, t1, t2⟩
def xaddL (gi : List XI) (a b : XN) : Option (List XI × XN) := match a.1, b.1 with
  | none, _ => xaddc lo64 hi64 gi b a.2
  | _, none => xaddc lo64 hi64 gi a b.2
  | _, _ => xby lo64 hi64 (fun p q => xfit lo64 hi64 (p.1 + q.1) (p.2 + q.2)) gi a b
theorem xaddL_ok : Op64 (· + ·) xaddL := by
  intro gi gi' a b r Gs x y ho hg ha hb
  obtain ⟨ga, ca⟩ := a
  obtain ⟨gb, cb⟩ := b
  cases ga with
  | none =>
    simp only [xaddL] at ho
    simp only [xval, Option.some.injEq] at ha
    exact xaddcL_ok ho hg hb (by rw [Int64.toInt_add, ha, Int.add_comm])
  | some g =>
    cases gb with
    | none =>
      simp only [xaddL] at ho
      simp only [xval, Option.some.injEq] at hb
      exact xaddcL_ok ho hg ha (by rw [Int64.toInt_add, hb])
    | some g2 =>
      simp only [xaddL] at ho
      refine xbyL_ok (F := (· + ·)) ?_ _ _ _ _ _ _ _ _ ho hg ha hb
      intro la ha lb hb u v x y h q1 q2 q3 q4
      obtain ⟨rfl, rfl, c1, c2⟩ := xfit_eq h
      rw [Int64.toInt_add, bm64 (by omega) (by omega)]
      omega
def xsubL (gi : List XI) (a b : XN) : Option (List XI × XN) := match b.1 with
  | none => xaddc lo64 hi64 gi a (- b.2)
  | _ => xby lo64 hi64 (fun p q => xfit lo64 hi64 (p.1 - q.2) (p.2 - q.1)) gi a b
theorem xsubL_ok : Op64 (· - ·) xsubL := by
  intro gi gi' a b r Gs x y ho hg ha hb
  obtain ⟨gb, cb⟩ := b
  cases gb with
  | none =>
    simp only [xsubL] at ho
    simp only [xval, Option.some.injEq] at hb
    exact xaddcL_ok ho hg ha (by rw [Int64.toInt_sub, hb, Int.sub_eq_add_neg])
  | some g2 =>
    simp only [xsubL] at ho
    refine xbyL_ok (F := (· - ·)) ?_ _ _ _ _ _ _ _ _ ho hg ha hb
    intro la ha lb hb u v x y h q1 q2 q3 q4
    obtain ⟨rfl, rfl, c1, c2⟩ := xfit_eq h
    rw [Int64.toInt_sub, bm64 (by omega) (by omega)]
    omega
/-- bounds of a product -/
def xmulb (lo hi : Int) (p q : Int × Int) : Option (Int × Int) :=
  xfit lo hi (min (min (p.1 * q.1) (p.1 * q.2)) (min (p.2 * q.1) (p.2 * q.2))) (max (max (p.1 * q.1) (p.1 * q.2)) (max (p.2 * q.1) (p.2 * q.2)))
theorem mul_bet {a b x y : Int} (h1 : a ≤ x) (h2 : x ≤ b) : min (a * y) (b * y) ≤ x * y ∧ x * y ≤ max (a * y) (b * y) := by
  rcases Int.le_total 0 y with h | h
  · have q1 := Int.mul_le_mul_of_nonneg_right h1 h
    have q2 := Int.mul_le_mul_of_nonneg_right h2 h
    omega
  · have q1 := Int.mul_le_mul_of_nonpos_right h1 h
    have q2 := Int.mul_le_mul_of_nonpos_right h2 h
    omega
theorem mul_bnd {la ha lb hb x y : Int} (q1 : la ≤ x) (q2 : x ≤ ha) (q3 : lb ≤ y) (q4 : y ≤ hb) : min (min (la * lb) (la * hb)) (min (ha * lb) (ha * hb)) ≤ x * y ∧ x * y ≤ max (max (la * lb) (la * hb)) (max (ha * lb) (ha * hb)) := by
  have h1 := mul_bet (y := y) q1 q2
  have h2 := mul_bet (y := la) q3 q4
  have h3 := mul_bet (y := ha) q3 q4
  rw [Int.mul_comm lb la, Int.mul_comm hb la, Int.mul_comm y la] at h2
  rw [Int.mul_comm lb ha, Int.mul_comm hb ha, Int.mul_comm y ha] at h3
  omega
def xmul : List XI → XN → XN → Option (List XI × XN) := xby lo32 hi32 (xmulb lo32 hi32)
theorem xmul_ok : Op32 (· * ·) xmul := by
  refine xby_ok ?_
  intro la ha lb hb u v x y h q1 q2 q3 q4
  obtain ⟨rfl, rfl, c1, c2⟩ := xfit_eq h
  have := mul_bnd q1 q2 q3 q4
  dsimp only at c1 c2
  rw [Int32.toInt_mul, bm32 (by omega) (by omega)]
  exact this
def xmulL : List XI → XN → XN → Option (List XI × XN) := xby lo64 hi64 (xmulb lo64 hi64)
theorem xmulL_ok : Op64 (· * ·) xmulL := by
  refine xbyL_ok ?_
  intro la ha lb hb u v x y h q1 q2 q3 q4
  obtain ⟨rfl, rfl, c1, c2⟩ := xfit_eq h
  have := mul_bnd q1 q2 q3 q4
  dsimp only at c1 c2
  rw [Int64.toInt_mul, bm64 (by omega) (by omega)]
  exact this
