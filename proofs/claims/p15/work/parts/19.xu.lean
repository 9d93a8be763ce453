/-! NODES: points where ways meet again, with a measure that falls from node to node; splits of a local -/
abbrev XLf : Type := List (Nat × Int) × Int
def lput (g : Nat) (a : Int) : List (Nat × Int) → List (Nat × Int)
  | [] => [(g, a)]
  | (h, b) :: r => if h = g then (h, b + a) :: r else (h, b) :: lput g a r
def lev (Gs : List Int) : List (Nat × Int) → Int
  | [] => 0
  | (g, a) :: r => a * Gs.getD g 0 + lev Gs r
abbrev lev' (Gs : List Int) (F : XLf) : Int := lev Gs F.1 + F.2
theorem lput_ok {Gs : List Int} {g : Nat} {a : Int} : ∀ (F : List (Nat × Int)), lev Gs (lput g a F) = lev Gs F + a * Gs.getD g 0
  | [] => by simp [lput, lev]
  | (h, b) :: r => by
    simp only [lput]
    by_cases c : h = g
    · rw [if_pos c]
      subst c
      simp only [lev]
      rw [Int.add_mul]
      omega
    · rw [if_neg c]
      simp only [lev]
      rw [lput_ok r]
      omega
def ladd (a : Int) (n : XN) (F : XLf) : XLf := match n with
  | (none, c) => (F.1, F.2 + a * c)
  | (some g, c) => (lput g a F.1, F.2 + a * c)
theorem ladd_ok {Gs : List Int} {a z : Int} {n : XN} {F : XLf} (h : xval Gs n = some z) : lev' Gs (ladd a n F) = lev' Gs F + a * z := by
  obtain ⟨g, c⟩ := n
  cases g with
  | none =>
    simp only [xval, Option.some.injEq] at h
    subst h
    simp only [ladd, lev']
    omega
  | some g =>
    simp only [xval] at h
    cases hg : Gs[g]? with
    | none => rw [hg] at h; cases h
    | some y =>
      rw [hg] at h
      simp only [Option.map_some, Option.some.injEq] at h
      subst h
      simp only [ladd, lev']
      rw [lput_ok, show Gs.getD g 0 = y by rw [List.getD_eq_getElem?_getD, hg]; rfl, Int.mul_add]
      omega
def lup (gi : List XI) : List (Nat × Int) → Option Int
  | [] => some 0
  | (g, a) :: r => match gi[g]?, lup gi r with
    | some (l, h, _), some u => some ((if 0 ≤ a then a * h else a * l) + u)
    | _, _ => none
theorem lup_ok {Gs : List Int} {gi : List XI} (hg : gok Gs gi) : ∀ {F : List (Nat × Int)} {u : Int}, lup gi F = some u → lev Gs F ≤ u
  | [], u, h => by
    simp only [lup, Option.some.injEq] at h
    subst h
    exact Int.le_refl _
  | (g, a) :: r, u, h => by
    simp only [lup] at h
    cases h1 : gi[g]? with
    | none => rw [h1] at h; cases h
    | some q =>
      obtain ⟨l, hh, rr⟩ := q
      cases h2 : lup gi r with
      | none => rw [h1, h2] at h; cases h
      | some w =>
        rw [h1, h2] at h
        simp only [Option.some.injEq] at h
        have ih := lup_ok hg h2
        have hlt : g < Gs.length := by rw [hg.1]; exact (List.getElem?_eq_some_iff.mp h1).1
        obtain ⟨b1, b2, -⟩ := hg.2 g l hh rr _ h1 (List.getElem?_eq_getElem hlt)
        simp only [lev]
        rw [show Gs.getD g 0 = Gs[g] by rw [List.getD_eq_getElem?_getD, List.getElem?_eq_getElem hlt]; rfl]
        by_cases c : 0 ≤ a
        · rw [if_pos c] at h
          have := Int.mul_le_mul_of_nonneg_left b2 c
          omega
        · rw [if_neg c] at h
          have := Int.mul_le_mul_of_nonpos_left (a := a) (by omega) b1
          omega
/-- s times the sum of the values with their factors -/
def lms (s : Int) : List Int → List XV → XLf → Option XLf
  | [], _, F => some F
  | a :: as, x :: xs, F => if a = 0 then lms s as xs F else match x with
    | .inl (.inl n) => lms s as xs (ladd (s * a) n F)
    | .inl (.inr n) => lms s as xs (ladd (s * a) n F)
    | _ => none
  | _ :: _, [], _ => none
def msum : List Int → List Value → Int
  | a :: as, v :: vs => a * gv v + msum as vs
  | _, _ => 0
theorem lms_ok {B : Nat → Nat → Prop} {Gs : List Int} {s : Int} : ∀ {as : List Int} {xs : List XV} {vs : List Value} {F F' : XLf}, lms s as xs F = some F' → SR B Gs xs vs → lev' Gs F' = lev' Gs F + s * msum as vs
  | [], xs, vs, F, F', h, _ => by
    simp only [lms, Option.some.injEq] at h
    subst h
    simp [msum]
  | a :: as, x :: xs, v :: vs, F, F', h, ⟨h1, h2⟩ => by
    simp only [lms] at h
    simp only [msum]
    by_cases c : a = 0
    · rw [if_pos c] at h
      subst c
      rw [lms_ok h h2]
      simp
    · rw [if_neg c] at h
      obtain ⟨k1, k2⟩ := xval_gv h1
      match x, h, k1, k2 with
      | .inl (.inl n), h, k1, k2 => rw [lms_ok h h2, ladd_ok (k1 n rfl), Int.mul_add, Int.mul_assoc]; omega
      | .inl (.inr n), h, k1, k2 => rw [lms_ok h h2, ladd_ok (k2 n rfl), Int.mul_add, Int.mul_assoc]; omega
/-- a node: its place, what is known of the entry's ghosts, the locals, V, its measure (a number, and a factor for each local and entry of V), relations (among the entry's ghosts, the locals, V) -/
abbrev XD : Type := Nat × List (Int × Int) × List (Nat × XP) × List XP × Int × List Int × XR
def nmake (nE : Nat) (gi : List XI) (P : XP) : Option (List XI × XV) := match P with
  | .inl (.inl (lo, hi)) => some ((xmk gi lo hi none).1, .inl (.inl (xmk gi lo hi none).2))
  | .inl (.inr (lo, hi)) => some ((xmk gi lo hi none).1, .inl (.inr (xmk gi lo hi none).2))
  | .inr (.inl k) => some (gi, .inr (.inl k))
  | .inr (.inr (.inl n)) => some (gi, .inl (.inl n))
  | .inr (.inr (.inr n)) => some (gi, .inl (.inr n))
def nmakes (nE : Nat) : List XI → List XP → Option (List XI × List XV)
  | gi, [] => some (gi, [])
  | gi, P :: ps => match nmake nE gi P with
    | some (g, v) => match nmakes nE g ps with
      | some (g', vs) => some (g', v :: vs)
      | none => none
    | none => none
theorem nmake_ok {B : Nat → Nat → Prop} {G0 r : List Int} {nE : Nat} {gi g : List XI} {P : XP} {y : XV} {v : Value} (h : nmake nE gi P = some (g, y)) (hg : gok (G0 ++ r) gi) (hr : rok B G0 P v) : ∃ t, gok (G0 ++ r ++ t) g ∧ xok B (G0 ++ r ++ t) y v := by
  match P, h, hr with
  | .inl (.inl (lo, hi)), h, ⟨i, e, h1, h2⟩ =>
    subst e
    simp only [nmake, Option.some.injEq, Prod.mk.injEq] at h
    obtain ⟨rfl, rfl⟩ := h
    obtain ⟨t, t1, t2⟩ := xmk_ok0 hg h1 h2
    exact ⟨t, t1, i, rfl, t2⟩
  | .inl (.inr (lo, hi)), h, ⟨i, e, h1, h2⟩ =>
    subst e
    simp only [nmake, Option.some.injEq, Prod.mk.injEq] at h
    obtain ⟨rfl, rfl⟩ := h
    obtain ⟨t, t1, t2⟩ := xmk_ok0 hg h1 h2
    exact ⟨t, t1, i, rfl, t2⟩
  | .inr (.inl k), h, hr =>
    simp only [nmake, Option.some.injEq, Prod.mk.injEq] at h
    obtain ⟨rfl, rfl⟩ := h
    exact ⟨[], by simpa using hg, hr⟩
  | .inr (.inr (.inl n)), h, ⟨i, e, h1⟩ =>
    subst e
    simp only [nmake, Option.some.injEq, Prod.mk.injEq] at h
    obtain ⟨rfl, rfl⟩ := h
    exact ⟨[], by simpa using hg, i, rfl, xval_mono (xval_mono h1)⟩
  | .inr (.inr (.inr n)), h, ⟨i, e, h1⟩ =>
    subst e
    simp only [nmake, Option.some.injEq, Prod.mk.injEq] at h
    obtain ⟨rfl, rfl⟩ := h
    exact ⟨[], by simpa using hg, i, rfl, xval_mono (xval_mono h1)⟩
theorem nmakes_ok {B : Nat → Nat → Prop} {G0 : List Int} {nE : Nat} : ∀ {ps : List XP} {r : List Int} {gi g : List XI} {xs : List XV} {vs : List Value}, nmakes nE gi ps = some (g, xs) → gok (G0 ++ r) gi → ROK B G0 ps vs → ∃ t, gok (G0 ++ (r ++ t)) g ∧ SR B (G0 ++ (r ++ t)) xs vs
  | [], r, gi, g, xs, [], h, hg, _ => by
    simp only [nmakes, Option.some.injEq, Prod.mk.injEq] at h
    obtain ⟨rfl, rfl⟩ := h
    exact ⟨[], by simpa using hg, trivial⟩
  | P :: ps, r, gi, g, xs, v :: vs, h, hg, ⟨h1, h2⟩ => by
    simp only [nmakes] at h
    cases h3 : nmake nE gi P with
    | none => rw [h3] at h; cases h
    | some q =>
      obtain ⟨g1, y⟩ := q
      rw [h3] at h
      simp only at h
      cases h4 : nmakes nE g1 ps with
      | none => rw [h4] at h; cases h
      | some q =>
        obtain ⟨g2, W⟩ := q
        rw [h4] at h
        simp only [Option.some.injEq, Prod.mk.injEq] at h
        obtain ⟨rfl, rfl⟩ := h
        obtain ⟨t, t1, t2⟩ := nmake_ok h3 hg h1
        rw [List.append_assoc] at t1 t2
        obtain ⟨t', t3, t4⟩ := nmakes_ok h4 t1 h2
        refine ⟨t ++ t', by rw [← List.append_assoc r]; exact t3, ?_, by rw [← List.append_assoc r]; exact t4⟩
        have := xok_mono (t := t') t2
        rw [List.append_assoc, List.append_assoc] at this
        exact this
/-- the point at a node -/
def npt (nE : Nat) (d : XD) : Option (XC × XLf) := match nmakes nE (d.2.1.map (fun q => (q.1, q.2, []))) (d.2.2.1.map (·.2) ++ d.2.2.2.1) with
  | some (gi, xs) => match lms 1 d.2.2.2.2.2.1 xs ([], d.2.2.2.2.1) with
    | some F => match xrrc (xids nE ++ xs.map xnum) d.2.2.2.2.2.2 gi with
      | some gi' => some ((d.1, gi', (d.2.2.1.map (·.1)).zip xs, [], xs.drop d.2.2.1.length), F)
      | none => none
    | none => none
  | none => none
def nvals (L : List (Nat × XV)) : List (Nat × XP) → Option (List XV)
  | [] => some []
  | (i, _) :: r => match xget L i, nvals L r with
    | some x, some xs => some (x :: xs)
    | _, _ => none
def lneg (F : XLf) : XLf := (F.1.map (fun q => (q.1, - q.2)), - F.2)
def lle (gi : List XI) (F : XLf) (u : Int) : Bool := (match lup gi F.1 with
  | some w => decide (w + F.2 ≤ u)
  | none => false) || (match F.1.filter (fun q => !(q.2 == 0)) with
  | [(g, a), (h, b)] => decide (g < gi.length) && decide (h < gi.length) && (if a = 1 ∧ b = -1 then xleq gi (some g, F.2) (some h, u) else if a = -1 ∧ b = 1 then xleq gi (some h, F.2) (some g, u) else false)
  | _ => false)
/-- an arrival at a node: its point fits, and the measure has fallen -/
def narr (E : XE) (nE : Nat) (old : Option XLf) (d : XD) (x : XC) : Bool := match x with
  | (_, gi, L, S, V) => S.isEmpty && xcovs gi d.2.1 && decide (V.length = E.2.2.2.length) && (match nvals L d.2.2.1 with
    | some xs => xretL nE gi (d.2.2.1.map (·.2) ++ d.2.2.2.1) (xs ++ V) && xrch gi (xids nE ++ (xs ++ V).map xnum) d.2.2.2.2.2.2 && (match old with
      | none => true
      | some F => lle gi (lneg F) (-1) && (match lms 1 d.2.2.2.2.2.1 (xs ++ V) ((lneg F).1, (lneg F).2 + d.2.2.2.2.1) with
        | some F' => lle gi F' (-1)
        | none => false))
    | none => false)
theorem lneg_ok {Gs : List Int} {F : XLf} : lev' Gs (lneg F) = - lev' Gs F := by
  obtain ⟨F, c⟩ := F
  simp only [lneg, lev']
  have : ∀ F : List (Nat × Int), lev Gs (F.map (fun q => (q.1, - q.2))) = - lev Gs F := by
    intro F
    induction F with
    | nil => simp [lev]
    | cons q r ih => simp only [List.map_cons, lev, ih, Int.neg_mul]; omega
  rw [this]
  omega
theorem lev_fil {Gs : List Int} : ∀ (F : List (Nat × Int)), lev Gs (F.filter (fun q => !(q.2 == 0))) = lev Gs F
  | [] => rfl
  | (g, a) :: r => by
    by_cases c : a = 0
    · subst c
      rw [List.filter_cons_of_neg (by simp)]
      simp only [lev]
      rw [lev_fil r]
      omega
    · rw [List.filter_cons_of_pos (by simp [c])]
      simp only [lev]
      rw [lev_fil r]
theorem lle_ok {Gs : List Int} {gi : List XI} {F : XLf} {u : Int} (hg : gok Gs gi) (h : lle gi F u = true) : lev' Gs F ≤ u := by
  unfold lle at h
  simp only [Bool.or_eq_true] at h
  rcases h with h | h
  · cases h1 : lup gi F.1 with
    | none => rw [h1] at h; cases h
    | some w =>
      rw [h1] at h
      simp only [decide_eq_true_eq] at h
      have := lup_ok hg h1
      simp only [lev']
      omega
  · split at h
    · rename_i g a k b e
      simp only [Bool.and_eq_true, decide_eq_true_eq] at h
      obtain ⟨⟨h1, h2⟩, h3⟩ := h
      have l1 : g < Gs.length := by rw [hg.1]; exact h1
      have l2 : k < Gs.length := by rw [hg.1]; exact h2
      have v1 : ∀ c, xval Gs (some g, c) = some (Gs[g] + c) := fun c => by simp only [xval, List.getElem?_eq_getElem l1, Option.map_some]
      have v2 : ∀ c, xval Gs (some k, c) = some (Gs[k] + c) := fun c => by simp only [xval, List.getElem?_eq_getElem l2, Option.map_some]
      simp only [lev']
      rw [← lev_fil, e]
      simp only [lev]
      rw [show Gs.getD g 0 = Gs[g] by rw [List.getD_eq_getElem?_getD, List.getElem?_eq_getElem l1]; rfl, show Gs.getD k 0 = Gs[k] by rw [List.getD_eq_getElem?_getD, List.getElem?_eq_getElem l2]; rfl]
      by_cases c1 : a = 1 ∧ b = -1
      · rw [if_pos c1] at h3
        have := xleq_ok hg (v1 _) (v2 _) h3
        obtain ⟨rfl, rfl⟩ := c1
        omega
      · rw [if_neg c1] at h3
        by_cases c2 : a = -1 ∧ b = 1
        · rw [if_pos c2] at h3
          have := xleq_ok hg (v2 _) (v1 _) h3
          obtain ⟨rfl, rfl⟩ := c2
          omega
        · rw [if_neg c2] at h3; cases h3
    · cases h
theorem nvals_ok {B : Nat → Nat → Prop} {Gs : List Int} {L : List (Nat × XV)} {lv : List (Nat × Value)} (hL : LR B Gs L lv) : ∀ {ps : List (Nat × XP)} {xs : List XV}, nvals L ps = some xs → ∃ vs, SR B Gs xs vs ∧ vs.length = ps.length ∧ ∀ w, ∀ q ∈ (ps.map (·.1)).zip (vs ++ w), q ∈ lv
  | [], xs, h => by
    simp only [nvals, Option.some.injEq] at h
    subst h
    exact ⟨[], trivial, rfl, fun w q hq => by simp at hq⟩
  | (i, P) :: r, xs, h => by
    simp only [nvals] at h
    cases h1 : xget L i with
    | none => rw [h1] at h; cases h
    | some x =>
      cases h2 : nvals L r with
      | none => rw [h1, h2] at h; cases h
      | some ys =>
        rw [h1, h2] at h
        simp only [Option.some.injEq] at h
        subst h
        obtain ⟨k, v, a, b⟩ := xget_ok hL h1
        obtain ⟨vs, c, e, d⟩ := nvals_ok hL h2
        refine ⟨v :: vs, ⟨b, c⟩, by simp [e], fun w q hq => ?_⟩
        simp only [List.map_cons, List.cons_append, List.zip_cons_cons, List.mem_cons] at hq
        rcases hq with rfl | hq
        · exact List.mem_of_getElem? a
        · exact d w q hq
