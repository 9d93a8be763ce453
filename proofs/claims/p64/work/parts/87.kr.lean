/-! makings: the run -/
def keqr (a b : Nat ⊕ Nat) : Bool := match a, b with
  | .inl i, .inl j => i == j
  | .inr i, .inr j => i == j
  | _, _ => false
theorem keqr_ok {a b : Nat ⊕ Nat} (h : keqr a b = true) : a = b := by
  match a, b, h with
  | .inl i, .inl j, h => simp only [keqr, beq_iff_eq] at h; rw [h]
  | .inr i, .inr j, h => simp only [keqr, beq_iff_eq] at h; rw [h]
def keqv (a b : KV) : Bool := match a, b with
  | .inl i, .inl j => i == j
  | .inr (.inl i), .inr (.inl j) => i == j
  | .inr (.inr none), .inr (.inr none) => true
  | .inr (.inr (some i)), .inr (.inr (some j)) => keqr i j
  | _, _ => false
theorem keqv_ok {a b : KV} (h : keqv a b = true) : a = b := by
  match a, b, h with
  | .inl i, .inl j, h => simp only [keqv, beq_iff_eq] at h; rw [h]
  | .inr (.inl i), .inr (.inl j), h => simp only [keqv, beq_iff_eq] at h; rw [h]
  | .inr (.inr none), .inr (.inr none), h => rfl
  | .inr (.inr (some i)), .inr (.inr (some j)), h => simp only [keqv] at h; rw [keqr_ok h]
def keql {α : Type} (f : α → α → Bool) : List α → List α → Bool
  | [], [] => true
  | a :: l, b :: r => f a b && keql f l r
  | _, _ => false
theorem keql_ok {α : Type} {f : α → α → Bool} (hf : ∀ a b, f a b = true → a = b) : ∀ {l r : List α}, keql f l r = true → l = r
  | [], [], _ => rfl
  | a :: l, b :: r, h => by
    simp only [keql, Bool.and_eq_true] at h
    rw [hf a b h.1, keql_ok hf h.2]
def keqc (a b : KC) : Bool := match a, b with
  | .inl (i, fs), .inl (j, gs) => i == j && keql keqv fs gs
  | .inr (t, z, .inl us), .inr (t', z', .inl vs) => t == t' && z == z' && keql (fun p q : Nat × Int => p.1 == q.1 && p.2 == q.2) us vs
  | .inr (t, z, .inr us), .inr (t', z', .inr vs) => t == t' && z == z' && keql (fun p q : Nat × (Nat ⊕ Nat) => p.1 == q.1 && keqr p.2 q.2) us vs
  | _, _ => false
theorem keqc_ok {a b : KC} (h : keqc a b = true) : a = b := by
  match a, b, h with
  | .inl (i, fs), .inl (j, gs), h =>
    simp only [keqc, Bool.and_eq_true, beq_iff_eq] at h
    rw [h.1, keql_ok (fun _ _ => keqv_ok) h.2]
  | .inr (t, z, .inl us), .inr (t', z', .inl vs), h =>
    simp only [keqc, Bool.and_eq_true, beq_iff_eq] at h
    have := keql_ok (fun (p q : Nat × Int) hh => by
      simp only [Bool.and_eq_true, beq_iff_eq] at hh
      exact Prod.ext hh.1 hh.2) h.2
    rw [h.1.1, h.1.2, this]
  | .inr (t, z, .inr us), .inr (t', z', .inr vs), h =>
    simp only [keqc, Bool.and_eq_true, beq_iff_eq] at h
    have := keql_ok (fun (p q : Nat × (Nat ⊕ Nat)) hh => by
      simp only [Bool.and_eq_true, beq_iff_eq] at hh
      exact Prod.ext hh.1 (keqr_ok hh.2)) h.2
    rw [h.1.1, h.1.2, this]
/-- where it ends: cells, locals, cells made, slots made; the stack is empty -/
def kend (fin : List KC × List (Nat × KV) × Nat × Nat) (x : KX) : Bool := match x with
  | (_, es, L, [], mc, ms) => keql keqc es fin.1 && keql (fun p q : Nat × KV => p.1 == q.1 && keqv p.2 q.2) L fin.2.1 && mc == fin.2.2.1 && ms == fin.2.2.2
  | _ => false
theorem kend_ok {fin : List KC × List (Nat × KV) × Nat × Nat} {x : KX} (h : kend fin x = true) : x = (x.1, fin.1, fin.2.1, [], fin.2.2.1, fin.2.2.2) := by
  obtain ⟨pc, es, L, S, mc, ms⟩ := x
  match S, h with
  | [], h =>
    simp only [kend, Bool.and_eq_true, beq_iff_eq] at h
    obtain ⟨⟨⟨h1, h2⟩, h3⟩, h4⟩ := h
    have e2 := keql_ok (fun (p q : Nat × KV) hh => by
      simp only [Bool.and_eq_true, beq_iff_eq] at hh
      exact Prod.ext hh.1 (keqv_ok hh.2)) h2
    rw [keql_ok (fun _ _ => keqc_ok) h1, e2, h3, h4]
noncomputable def krun (T : KT) (nl kc MC MS : Nat) (cc : ByteArray) (stop : Nat) (fin : List KC × List (Nat × KV) × Nat × Nat) (fuel : Nat) : KX → Bool := Nat.rec (motive := fun _ => KX → Bool) (fun _ => false) (fun _ ih x => nforce x.1 (fun pc => if pc = stop then kend fin (pc, x.2) else match decode cc pc with
  | .ok (ins, len) => (match kstep T nl kc MC MS ins len (pc, x.2) with
    | some y => ih y
    | none => false)
  | .error _ => false)) fuel
section KR
variable {D : va_G} {t : Nat → ClassId} {lo : Nat} {ext : List Nat}
variable {p : Program} {l : Launch} {e : Env} {R : Room} {s : State} {m : MethodId} {args : Array Value} {below : List Frame} {meth : Method} {c : Code} {Q : State → Prop}
variable {cc : ByteArray} {own : String} {nl : Nat} {ret : Option FieldType}
theorem krun_ok {T : KT} {kc MC MS stop : Nat} {fin : List KC × List (Nat × KV) × Nat × Nat} (X : CX p s m args meth c own cc nl ret) (hT : KTok l D t own T) (hin : T.1 = [] ∨ meth.name = "<init>") (hR : MC ≤ R.cells ∧ MS ≤ R.slots) (hRk : kc ≤ R.frames ∧ 60 * kc ≤ R.locals) (hf : GOK D t lo ext nl p l e R s m args below meth c Q (stop, fin.1, fin.2.1, [], fin.2.2.1, fin.2.2.2)) : ∀ (fuel : Nat) (x : KX), krun T nl kc MC MS cc stop fin fuel x = true → GOK D t lo ext nl p l e R s m args below meth c Q x := by
  intro fuel
  induction fuel with
  | zero => intro x h; cases h
  | succ n ih =>
    intro x h H locs ls hs
    have e1 : krun T nl kc MC MS cc stop fin (n + 1) x = nforce x.1 (fun pc => if pc = stop then kend fin (pc, x.2) else match decode cc pc with
      | .ok (ins, len) => (match kstep T nl kc MC MS ins len (pc, x.2) with
        | some y => krun T nl kc MC MS cc stop fin n y
        | none => false)
      | .error _ => false) := rfl
    rw [e1, nforce_eq] at h
    by_cases c1 : x.1 = stop
    · rw [if_pos c1] at h
      have e2 := kend_ok h
      have e3 : x = (stop, fin.1, fin.2.1, [], fin.2.2.1, fin.2.2.2) := by
        rw [← c1]; exact e2
      subst e3
      exact hf H locs ls hs
    · rw [if_neg c1] at h
      cases hd : decode cc x.1 with
      | error _ => rw [hd] at h; cases h
      | ok r =>
        obtain ⟨ins, len⟩ := r
        rw [hd] at h
        simp only at h
        cases h2 : kstep T nl kc MC MS ins len (x.1, x.2) with
        | none => rw [h2] at h; cases h
        | some y =>
          rw [h2] at h
          exact kstep_ok X hT hin hR hRk hd h2 hs (ih y h)
end KR
/-- the locals with which a constructor begins -/
def kloc : Nat → List (Nat × KV)
  | 0 => [(0, .inr (.inr (some (.inl 0))))]
  | 1 => [(0, .inr (.inr (some (.inl 0)))), (1, .inr (.inr (some (.inr 0))))]
  | _ => [(0, .inr (.inr (some (.inl 0)))), (1, .inr (.inr (some (.inr 0)))), (2, .inr (.inr (some (.inr 1))))]
theorem kloc_ok {b : Nat} : ∀ {na : Nat} {ext : List Nat}, na ≤ 2 → ext.length = na → lv_args 0 (.ref b :: ext.map Value.ref) = (kloc na).map (fun q => (q.1, kval b ext q.2))
  | 0, [], _, _ => rfl
  | 1, [a], _, _ => rfl
  | 2, [a, a'], _, _ => rfl
theorem kslots {b : Nat} : ∀ (ext : List Nat), (lg_sl (.ref b :: ext.map Value.ref)).length = ext.length + 1
  | [] => rfl
  | a :: ext => by
    have ih := kslots (b := b) ext
    simp only [lg_sl, List.flatMap_cons, List.map_cons, List.length_append, List.length_cons] at ih ⊢
    have h1 : (if (Value.ref b).category = 2 then [Slot.val (.ref b), .second] else [Slot.val (.ref b)]).length = 1 := rfl
    have h2 : (if (Value.ref a).category = 2 then [Slot.val (.ref a), .second] else [Slot.val (.ref a)]).length = 1 := rfl
    rw [h1] at ih ⊢
    rw [h2]
    omega
theorem kmade {l : Launch} {D : va_G} {t : Nat → ClassId} {y : MethodName} {cc : ByteArray} {nl na stop fuel : Nat} {T : KT} {M : KM} {L : List (Nat × KV)} (hy : plainName y.cls = true) (hyn : y.name = "<init>") (hna : na ≤ 2) (hnl : na + 1 ≤ nl) (hT : KTok l D t y.cls T) (hstop : decode cc stop = .ok (.return_, 1)) (h : krun T nl M.2.2.2.1 M.1 M.2.1 cc stop (M.2.2.2.2.2, L, M.1, M.2.1) fuel (0, [.inl (M.2.2.1, M.2.2.2.2.1)], kloc na, [], 0, 0) = true) : KHO l D t y cc nl na M := by
  intro b ext hext
  refine MetN.start hy hyn (by rw [kslots, hext]; exact hnl) ?_
  intro p e s m below meth c X hname hN ls hl
  rw [kloc_ok hna hext] at hl
  refine krun_ok (lo := b) (ext := ext) (R := nl_rm M.2.2.2.1 M.1 M.2.1) X hT (Or.inr hname) ⟨Nat.le_refl _, Nat.le_refl _⟩ ⟨Nat.le_refl _, Nat.le_refl _⟩ ?_ fuel (0, [.inl (M.2.2.1, M.2.2.2.2.1)], kloc na, [], 0, 0) h s.heap [] ls ⟨hN, hl⟩
  intro H locs ls hs
  exact nl_vret X hs.1 hstop
