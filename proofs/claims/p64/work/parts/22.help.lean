/-! helpers of the tables -/
abbrev pI (a b : Int) : XP := .inl (.inl (a, b))
abbrev pL (a b : Int) : XP := .inl (.inr (a, b))
abbrev pR (k : Nat) : XP := .inr (.inl k)
abbrev pE (g : Nat) (c : Int) : XP := .inr (.inr (.inl (some g, c)))
abbrev pF (g : Nat) (c : Int) : XP := .inr (.inr (.inr (some g, c)))
abbrev tI (a b : Int) : XT := .inl (.inl (a, b))
abbrev tL (a b : Int) : XT := .inl (.inr (a, b))
abbrev tR (k : Nat) : XT := .inr (.inl k)
abbrev tV (j : Nat) : XT := .inr (.inr j)
theorem ML1.v {own : String} {Y : XY} {i na ci : Nat} {T : u_T} {N : Nat} (h1 : Cond.methodLink own i Y.1 ∈ Wd) (h2 : Cond.code Y.1 Y.2.1 Y.2.2.1 Y.2.2.2.1 ∈ Wd) (h3 : Cond.initialized Y.1.cls ∈ Wd) (h4 : Y.1.cls ≠ "java/lang/invoke/MethodHandle" ∧ Y.1.cls ≠ "java/lang/invoke/VarHandle" ∧ (parseMethodDescriptor Y.1.desc).map (fun d => d.parameters.length) = some na) (h5 : Y.2.2.1 + 19 ≤ 60) (h6 : Cond.instanceMethod Y.1 ∈ Wd) (h7 : Cond.selects Y.1.cls Y.1 Y.1 ∈ Wd) (h8 : vwCl[ci]? = some (Y.1.cls, T, N)) : ML1 own Y i 0 na ci :=
  ⟨fun h => absurd h (by decide), fun h => absurd h (by decide), fun h => absurd h (by decide), fun _ => ⟨h1, h2, h3, h4, h5, by rw [if_neg (by decide), if_neg (by decide), if_neg (by decide), if_neg (by decide)]; exact ⟨h6, h7, T, N, h8⟩⟩⟩
theorem ML1.s {own : String} {Y : XY} {i na ci : Nat} (h1 : Cond.methodLink own i Y.1 ∈ Wd) (h2 : Cond.code Y.1 Y.2.1 Y.2.2.1 Y.2.2.2.1 ∈ Wd) (h3 : Cond.initialized Y.1.cls ∈ Wd) (h4 : Y.1.cls ≠ "java/lang/invoke/MethodHandle" ∧ Y.1.cls ≠ "java/lang/invoke/VarHandle" ∧ (parseMethodDescriptor Y.1.desc).map (fun d => d.parameters.length) = some na) (h5 : Y.2.2.1 + 19 ≤ 60) (h6 : Cond.static Y.1 ∈ Wd) : ML1 own Y i 1 na ci :=
  ⟨fun h => absurd h (by decide), fun h => absurd h (by decide), fun h => absurd h (by decide), fun _ => ⟨h1, h2, h3, h4, h5, by rw [if_pos rfl]; exact h6⟩⟩
theorem ML1.b {own : String} {i ci k : Nat} (h1 : Cond.methodLink own i yX11_isBit ∈ Wd) (h2 : Cond.code yX11_isBit cX11_isBit 2 (some .boolean) ∈ Wd) (h3 : Cond.initialized yX11_isBit.cls ∈ Wd) (h4 : yX11_isBit.cls ≠ "java/lang/invoke/MethodHandle" ∧ yX11_isBit.cls ≠ "java/lang/invoke/VarHandle" ∧ (parseMethodDescriptor yX11_isBit.desc).map (fun d => d.parameters.length) = some 2) (h5 : 2 + 19 ≤ 60) (h6 : Cond.static yX11_isBit ∈ Wd) : ML1 own (yX11_isBit, cX11_isBit, 2, some .boolean, k) i 2 2 ci :=
  ⟨fun h => absurd h (by decide), fun h => absurd h (by decide), fun h => absurd h (by decide), fun _ => ⟨h1, h2, h3, h4, h5, by rw [if_neg (by decide), if_pos rfl]; exact ⟨h6, rfl, rfl, rfl, rfl, rfl⟩⟩⟩
theorem ML1.len {own : String} {i ci k : Nat} (h1 : Cond.methodLink own i yJ0_length_8abf5 ∈ Wd) (h2 : Cond.code yJ0_length_8abf5 cJ0_length_8abf5 1 (some .int) ∈ Wd) (h3 : Cond.initialized yJ0_length_8abf5.cls ∈ Wd) (h4 : yJ0_length_8abf5.cls ≠ "java/lang/invoke/MethodHandle" ∧ yJ0_length_8abf5.cls ≠ "java/lang/invoke/VarHandle" ∧ (parseMethodDescriptor yJ0_length_8abf5.desc).map (fun d => d.parameters.length) = some 0) (h5 : 1 + 19 ≤ 60) (h6 : Cond.instanceMethod yJ0_length_8abf5 ∈ Wd) (h7 : Cond.selects yJ0_length_8abf5.cls yJ0_length_8abf5 yJ0_length_8abf5 ∈ Wd) : ML1 own (yJ0_length_8abf5, cJ0_length_8abf5, 1, some .int, k) i 3 0 ci :=
  ⟨fun h => absurd h (by decide), fun h => absurd h (by decide), fun h => absurd h (by decide), fun _ => ⟨h1, h2, h3, h4, h5, by rw [if_neg (by decide), if_neg (by decide), if_pos rfl]; exact ⟨h6, h7, rfl, rfl, rfl, rfl, rfl⟩⟩⟩
theorem ML1.chr {own : String} {i ci k : Nat} (h1 : Cond.methodLink own i yJ0_charAt_5068e ∈ Wd) (h2 : Cond.code yJ0_charAt_5068e cJ0_charAt_5068e 2 (some .char) ∈ Wd) (h3 : Cond.initialized yJ0_charAt_5068e.cls ∈ Wd) (h4 : yJ0_charAt_5068e.cls ≠ "java/lang/invoke/MethodHandle" ∧ yJ0_charAt_5068e.cls ≠ "java/lang/invoke/VarHandle" ∧ (parseMethodDescriptor yJ0_charAt_5068e.desc).map (fun d => d.parameters.length) = some 1) (h5 : 2 + 19 ≤ 60) (h6 : Cond.instanceMethod yJ0_charAt_5068e ∈ Wd) (h7 : Cond.selects yJ0_charAt_5068e.cls yJ0_charAt_5068e yJ0_charAt_5068e ∈ Wd) : ML1 own (yJ0_charAt_5068e, cJ0_charAt_5068e, 2, some .char, k) i 4 1 ci :=
  ⟨fun h => absurd h (by decide), fun h => absurd h (by decide), fun h => absurd h (by decide), fun _ => ⟨h1, h2, h3, h4, h5, by rw [if_neg (by decide), if_neg (by decide), if_neg (by decide), if_pos rfl]; exact ⟨h6, h7, rfl, rfl, rfl, rfl, rfl⟩⟩⟩
theorem ML1.str {own : String} {Y : XY} {i na ci : Nat} (h : own = "BellMoney$Reader" ∧ na < 19 ∧ strI.getD na 0 = i) : ML1 own Y i 5 na ci := ⟨fun _ => h, fun q => absurd q (by decide), fun q => absurd q (by decide), fun q => absurd q (by decide)⟩
theorem ML1.max {own : String} {Y : XY} {i na ci : Nat} (h1 : Cond.methodLink own i Lib.Math.max.name ∈ Wd) (h2 : Cond.static Lib.Math.max.name ∈ Wd) (h3 : Cond.initialized "java/lang/Math" ∈ Wd) (h4 : Cond.code Lib.Math.max.name Lib.Math.max.code 2 (some .int) ∈ Wd) : ML1 own Y i 6 na ci := ⟨fun h => absurd h (by decide), fun _ => ⟨h1, h2, h3, h4⟩, fun h => absurd h (by decide), fun h => absurd h (by decide)⟩
theorem ML1.min {own : String} {Y : XY} {i na ci : Nat} (h1 : Cond.methodLink own i Lib.Math.min.name ∈ Wd) (h2 : Cond.static Lib.Math.min.name ∈ Wd) (h3 : Cond.initialized "java/lang/Math" ∈ Wd) (h4 : Cond.code Lib.Math.min.name Lib.Math.min.code 2 (some .int) ∈ Wd) : ML1 own Y i 7 na ci := ⟨fun h => absurd h (by decide), fun h => absurd h (by decide), fun _ => ⟨h1, h2, h3, h4⟩, fun h => absurd h (by decide)⟩
theorem XQok.nil {own : String} : XQok own ([], []) := ⟨(fun i v h => by cases h), (fun i v h => by cases h)⟩
theorem XQok.i {own : String} {i : Nat} {v : Int} {w : Int32} {a b : List (Nat × Int)} (hw : w = Int32.ofInt v) (h : Cond.constant own i w ∈ Wd) (h2 : XQok own (a, b)) : XQok own ((i, v) :: a, b) := by
  refine ⟨fun i' v' q => ?_, h2.2⟩
  simp only [xlook] at q
  by_cases c : i = i'
  · rw [if_pos c] at q
    cases q
    subst c
    rw [← hw]; exact h
  · rw [if_neg c] at q
    exact h2.1 i' v' q
theorem XQok.l {own : String} {i : Nat} {v : Int} {w : Int64} {a b : List (Nat × Int)} (hw : w = Int64.ofInt v) (h : Cond.constantLong own i w ∈ Wd) (h2 : XQok own (a, b)) : XQok own (a, (i, v) :: b) := by
  refine ⟨h2.1, fun i' v' q => ?_⟩
  simp only [xlook] at q
  by_cases c : i = i'
  · rw [if_pos c] at q
    cases q
    subst c
    rw [← hw]; exact h
  · rw [if_neg c] at q
    exact h2.2 i' v' q
/-- the check that V and the kinds fit -/
def twf (tr : List (Nat × Nat)) (i : Nat) : Nat → List XT → Bool
  | _, [] => true
  | k, .inr (.inr j) :: ts => tr[j]? == some (i, k) && twf tr i (k + 1) ts
  | k, _ :: ts => twf tr i (k + 1) ts
def twk (K : List XK) (tr : List (Nat × Nat)) (i : Nat) : List Nat → Bool
  | [] => true
  | κ :: r => (match K[κ]? with
    | some (.inl (_, ts)) => twf tr i 0 ts
    | some (.inr (_, _, .inl (_, _, tk, _))) => tk.all (fun q => tr[q.2]? == some (i, q.1))
    | _ => true) && twk K tr (i + 1) r
def twr (E : XE) : Nat → List (Nat × Nat) → Bool
  | _, [] => true
  | j, (o, k) :: r => (match E.2.1[o]? with
    | some κ => match E.1[κ]? with
      | some (.inl (_, ts)) => decide (ts[k]? = some (.inr (.inr j)))
      | some (.inr (tt, z, .inl (_, _, tk, _))) => decide (klk tk k = some j) && decide (k < z) && decide (tt ≠ 1)
      | _ => false
    | none => false) && twr E (j + 1) r
theorem twf_ok {tr : List (Nat × Nat)} {i : Nat} : ∀ {ts : List XT} {k0 k j : Nat}, twf tr i k0 ts = true → ts[k]? = some (.inr (.inr j)) → tr[j]? = some (i, k0 + k)
  | [], k0, k, j, _, h => by simp at h
  | T :: ts, k0, 0, j, h, hk => by
    simp only [List.getElem?_cons_zero, Option.some.injEq] at hk
    subst hk
    simp only [twf, Bool.and_eq_true, beq_iff_eq] at h
    exact h.1
  | T :: ts, k0, k + 1, j, h, hk => by
    have h2 : twf tr i (k0 + 1) ts = true := by
      match T, h with
      | .inl _, h => simpa [twf] using h
      | .inr (.inl _), h => simpa [twf] using h
      | .inr (.inr _), h => simp only [twf, Bool.and_eq_true] at h; exact h.2
    have := twf_ok h2 (by simpa using hk)
    rw [show k0 + (k + 1) = k0 + 1 + k by omega]
    exact this
theorem twk_ok {K : List XK} {tr : List (Nat × Nat)} : ∀ {kd : List Nat} {i0 i κ : Nat}, twk K tr i0 kd = true → kd[i]? = some κ → (∀ (ci : Nat) (ts : List XT) (k j : Nat), K[κ]? = some (.inl (ci, ts)) → ts[k]? = some (.inr (.inr j)) → tr[j]? = some (i0 + i, k)) ∧ (∀ (tt z : Nat) (lo hi : Int) (tk : List (Nat × Nat)) (bl : List (Int × Int)) (k j : Nat), K[κ]? = some (.inr (tt, z, .inl (lo, hi, tk, bl))) → (k, j) ∈ tk → tr[j]? = some (i0 + i, k))
  | [], i0, i, κ, _, h => by simp at h
  | κ0 :: r, i0, 0, κ, h, h1 => by
    simp only [List.getElem?_cons_zero, Option.some.injEq] at h1
    subst h1
    simp only [twk, Bool.and_eq_true] at h
    refine ⟨fun ci ts k j h2 h3 => ?_, fun tt z lo hi tk bl k j h2 h3 => ?_⟩
    · rw [h2] at h
      have := twf_ok h.1 h3
      simpa using this
    · rw [h2] at h
      have := List.all_eq_true.mp h.1 (k, j) h3
      simpa using this
  | κ0 :: r, i0, i + 1, κ, h, h1 => by
    simp only [twk, Bool.and_eq_true] at h
    have := twk_ok h.2 (by simpa using h1)
    rw [show i0 + (i + 1) = i0 + 1 + i by omega]
    exact this
theorem twr_ok {E : XE} : ∀ {tr : List (Nat × Nat)} {j0 j o k : Nat}, twr E j0 tr = true → tr[j]? = some (o, k) → ∃ (κ : Nat), E.2.1[o]? = some κ ∧ ((∃ (ci : Nat) (ts : List XT), E.1[κ]? = some (.inl (ci, ts)) ∧ ts[k]? = some (.inr (.inr (j0 + j)))) ∨ (∃ (tt z : Nat) (lo hi : Int) (tk : List (Nat × Nat)) (bl : List (Int × Int)), E.1[κ]? = some (.inr (tt, z, .inl (lo, hi, tk, bl))) ∧ klk tk k = some (j0 + j) ∧ k < z ∧ tt ≠ 1))
  | [], j0, j, o, k, _, h => by simp at h
  | (o', k') :: r, j0, 0, o, k, h, h1 => by
    simp only [List.getElem?_cons_zero, Option.some.injEq, Prod.mk.injEq] at h1
    obtain ⟨rfl, rfl⟩ := h1
    simp only [twr, Bool.and_eq_true] at h
    obtain ⟨h, _⟩ := h
    split at h
    · rename_i κ e1
      split at h
      · rename_i ci ts e2
        exact ⟨κ, e1, Or.inl ⟨ci, ts, e2, by simpa using h⟩⟩
      · rename_i tt z lo hi tk bl e2
        simp only [Bool.and_eq_true, decide_eq_true_eq] at h
        exact ⟨κ, e1, Or.inr ⟨tt, z, lo, hi, tk, bl, e2, by simpa using h.1.1, h.1.2, h.2⟩⟩
      · cases h
    · cases h
  | (o', k') :: r, j0, j + 1, o, k, h, h1 => by
    simp only [twr, Bool.and_eq_true] at h
    have := twr_ok h.2 (by simpa using h1)
    rw [show j0 + (j + 1) = j0 + 1 + j by omega]
    exact this
theorem TW_of {E : XE} (h1 : twk E.1 E.2.2.2 0 E.2.1 = true) (h2 : twr E 0 E.2.2.2 = true) : TW E := by
  refine ⟨fun i κ ci ts k j a b c => ?_, fun i κ tt z lo hi tk bl k j a b c => ?_, fun j o k a => ?_⟩
  · have := (twk_ok h1 a).1 ci ts k j b c
    simpa using this
  · have := (twk_ok h1 a).2 tt z lo hi tk bl k j b c
    simpa using this
  · have := twr_ok h2 a
    simpa using this
theorem dep_of {ys : List XY} {dep : List Nat} (h : dep = ys.map (fun Y => Y.2.2.2.2)) : ∀ (no k : Nat) (Y : XY), dep[no]? = some k → ys[no]? = some Y → Y.2.2.2.2 = k := by
  intro no k Y a b
  rw [h, List.getElem?_map, b] at a
  simpa using a
