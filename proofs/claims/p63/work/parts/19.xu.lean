/-! NODES: points where ways meet again, with a measure that falls from node to node; splits of a local -/
abbrev XLf : Type := List (Nat × Int) × Int
def lput (g : Nat) (a : Int) : List (Nat × Int) → List (Nat × Int)
  | [] => [(g, a)]
  | (h, b) :: r => if h = g then (h, b + a) :: r else (h, b) :: lput g a r
def lev (Gs : List Int) : List (Nat × Int) → Int
  | [] => 0
  | (g, a) :: r => a * Gs.getD g 0 + lev Gs r
abbrev lev' (Gs : List Int) (F : XLf) : Int := lev Gs F.1 + F.2
theorem lput_ok {Gs : List Int} {g : Nat} {a : Int} : ∀ (F : List (Nat × Int)), lev Gs (lput g a F) = lev Gs F + a * Gs.getD g 0
  | [] => by simp [lput, lev]
  | (h, b) :: r => by
    simp only [lput]
    by_cases c : h = g
    · rw [if_pos c]
      subst c
      simp only [lev]
      rw [Int.add_mul]
      omega
    · rw [if_neg c]
      simp only [lev]
      rw [lput_ok r]
      omega
def ladd (a : Int) (n : XN) (F : XLf) : XLf := match n with
  | (none, c) => (F.1, F.2 + a * c)
  | (some g, c) => (lput g a F.1, F.2 + a * c)
theorem ladd_ok {Gs : List Int} {a z : Int} {n : XN} {F : XLf} (h : xval Gs n = some z) : lev' Gs (ladd a n F) = lev' Gs F + a * z := by
  obtain ⟨g, c⟩ := n
  cases g with
  | none =>
    simp only [xval, Option.some.injEq] at h
    subst h
    simp only [ladd, lev']
    omega
  | some g =>
    simp only [xval] at h
    cases hg : Gs[g]? with
    | none => rw [hg] at h; cases h
    | some y =>
      rw [hg] at h
      simp only [Option.map_some, Option.some.injEq] at h
      subst h
      simp only [ladd, lev']
      rw [lput_ok, show Gs.getD g 0 = y by rw [List.getD_eq_getElem?_getD, hg]; rfl, Int.mul_add]
      omega
def lup (gi : List XI) : List (Nat × Int) → Option Int
  | [] => some 0
  | (g, a) :: r => match gi[g]?, lup gi r with
    | some (l, h, _), some u => some ((if 0 ≤ a then a * h else a * l) + u)
    | _, _ => none
theorem lup_ok {Gs : List Int} {gi : List XI} (hg : gok Gs gi) : ∀ {F : List (Nat × Int)} {u : Int}, lup gi F = some u → lev Gs F ≤ u
  | [], u, h => by
    simp only [lup, Option.some.injEq] at h
    subst h
    exact Int.le_refl _
  | (g, a) :: r, u, h => by
    simp only [lup] at h
    cases h1 : gi[g]? with
    | none => rw [h1] at h; cases h
    | some q =>
      obtain ⟨l, hh, rr⟩ := q
      cases h2 : lup gi r with
      | none => rw [h1, h2] at h; cases h
      | some w =>
        rw [h1, h2] at h
        simp only [Option.some.injEq] at h
        have ih := lup_ok hg h2
        have hlt : g < Gs.length := by rw [hg.1]; exact (List.getElem?_eq_some_iff.mp h1).1
        obtain ⟨b1, b2, -⟩ := hg.2 g l hh rr _ h1 (List.getElem?_eq_getElem hlt)
        simp only [lev]
        rw [show Gs.getD g 0 = Gs[g] by rw [List.getD_eq_getElem?_getD, List.getElem?_eq_getElem hlt]; rfl]
        by_cases c : 0 ≤ a
        · rw [if_pos c] at h
          have := Int.mul_le_mul_of_nonneg_left b2 c
          omega
        · rw [if_neg c] at h
          have := Int.mul_le_mul_of_nonpos_left (a := a) (by omega) b1
          omega
/-- s times the sum of the values with their factors -/
def lms (s : Int) : List Int → List XV → XLf → Option XLf
  | [], _, F => some F
  | a :: as, x :: xs, F => if a = 0 then lms s as xs F else match x with
    | .inl (.inl n) => lms s as xs (ladd (s * a) n F)
    | .inl (.inr n) => lms s as xs (ladd (s * a) n F)
    | _ => none
  | _ :: _, [], _ => none
def msum : List Int → List Value → Int
  | a :: as, v :: vs => a * gv v + msum as vs
  | _, _ => 0
theorem lms_ok {B : Nat → Nat → Prop} {Gs : List Int} {s : Int} : ∀ {as : List Int} {xs : List XV} {vs : List Value} {F F' : XLf}, lms s as xs F = some F' → SR B Gs xs vs → lev' Gs F' = lev' Gs F + s * msum as vs
  | [], xs, vs, F, F', h, _ => by
    simp only [lms, Option.some.injEq] at h
    subst h
    simp [msum]
  | a :: as, x :: xs, v :: vs, F, F', h, ⟨h1, h2⟩ => by
    simp only [lms] at h
    simp only [msum]
    by_cases c : a = 0
    · rw [if_pos c] at h
      subst c
      rw [lms_ok h h2]
      simp
    · rw [if_neg c] at h
      obtain ⟨k1, k2⟩ := xval_gv h1
      match x, h, k1, k2 with
      | .inl (.inl n), h, k1, k2 => rw [lms_ok h h2, ladd_ok (k1 n rfl), Int.mul_add, Int.mul_assoc]; omega
      | .inl (.inr n), h, k1, k2 => rw [lms_ok h h2, ladd_ok (k2 n rfl), Int.mul_add, Int.mul_assoc]; omega
/-- a node: its place, what is known of the entry's ghosts, the locals, V, its measure (a number, and a factor for each local and entry of V), relations (among the entry's ghosts, the locals, V) -/
abbrev XD : Type := Nat × List (Int × Int) × List (Nat × XP) × List XP × Int × List Int × XR
def nmake (nE : Nat) (gi : List XI) (P : XP) : Option (List XI × XV) := match P with
  | .inl (.inl (lo, hi)) => some ((xmk gi lo hi none).1, .inl (.inl (xmk gi lo hi none).2))
  | .inl (.inr (lo, hi)) => some ((xmk gi lo hi none).1, .inl (.inr (xmk gi lo hi none).2))
  | .inr (.inl k) => some (gi, .inr (.inl k))
  | .inr (.inr (.inl n)) => some (gi, .inl (.inl n))
  | .inr (.inr (.inr n)) => some (gi, .inl (.inr n))
def nmakes (nE : Nat) : List XI → List XP → Option (List XI × List XV)
  | gi, [] => some (gi, [])
  | gi, P :: ps => match nmake nE gi P with
    | some (g, v) => match nmakes nE g ps with
      | some (g', vs) => some (g', v :: vs)
      | none => none
    | none => none
theorem nmake_ok {B : Nat → Nat → Prop} {G0 r : List Int} {nE : Nat} {gi g : List XI} {P : XP} {y : XV} {v : Value} (h : nmake nE gi P = some (g, y)) (hg : gok (G0 ++ r) gi) (hr : rok B G0 P v) : ∃ t, gok (G0 ++ r ++ t) g ∧ xok B (G0 ++ r ++ t) y v := by
  match P, h, hr with
  | .inl (.inl (lo, hi)), h, ⟨i, e, h1, h2⟩ =>
    subst e
    simp only [nmake, Option.some.injEq, Prod.mk.injEq] at h
    obtain ⟨rfl, rfl⟩ := h
    obtain ⟨t, t1, t2⟩ := xmk_ok0 hg h1 h2
    exact ⟨t, t1, i, rfl, t2⟩
  | .inl (.inr (lo, hi)), h, ⟨i, e, h1, h2⟩ =>
    subst e
    simp only [nmake, Option.some.injEq, Prod.mk.injEq] at h
    obtain ⟨rfl, rfl⟩ := h
    obtain ⟨t, t1, t2⟩ := xmk_ok0 hg h1 h2
    exact ⟨t, t1, i, rfl, t2⟩
  | .inr (.inl k), h, hr =>
    simp only [nmake, Option.some.injEq, Prod.mk.injEq] at h
    obtain ⟨rfl, rfl⟩ := h
    exact ⟨[], by simpa using hg, hr⟩
  | .inr (.inr (.inl n)), h, ⟨i, e, h1⟩ =>
    subst e
    simp only [nmake, Option.some.injEq, Prod.mk.injEq] at h
    obtain ⟨rfl, rfl⟩ := h
    exact ⟨[], by simpa using hg, i, rfl, xval_mono (xval_mono h1)⟩
  | .inr (.inr (.inr n)), h, ⟨i, e, h1⟩ =>
    subst e
    simp only [nmake, Option.some.injEq, Prod.mk.injEq] at h
    obtain ⟨rfl, rfl⟩ := h
    exact ⟨[], by simpa using hg, i, rfl, xval_mono (xval_mono h1)⟩
theorem nmakes_ok {B : Nat → Nat → Prop} {G0 : List Int} {nE : Nat} : ∀ {ps : List XP} {r : List Int} {gi g : List XI} {xs : List XV} {vs : List Value}, nmakes nE gi ps = some (g, xs) → gok (G0 ++ r) gi → ROK B G0 ps vs → ∃ t, gok (G0 ++ (r ++ t)) g ∧ SR B (G0 ++ (r ++ t)) xs vs
  | [], r, gi, g, xs, [], h, hg, _ => by
    simp only [nmakes, Option.some.injEq, Prod.mk.injEq] at h
    obtain ⟨rfl, rfl⟩ := h
    exact ⟨[], by simpa using hg, trivial⟩
  | P :: ps, r, gi, g, xs, v :: vs, h, hg, ⟨h1, h2⟩ => by
    simp only [nmakes] at h
    cases h3 : nmake nE gi P with
    | none => rw [h3] at h; cases h
    | some q =>
      obtain ⟨g1, y⟩ := q
      rw [h3] at h
      simp only at h
      cases h4 : nmakes nE g1 ps with
      | none => rw [h4] at h; cases h
      | some q =>
        obtain ⟨g2, W⟩ := q
        rw [h4] at h
        simp only [Option.some.injEq, Prod.mk.injEq] at h
        obtain ⟨rfl, rfl⟩ := h
        obtain ⟨t, t1, t2⟩ := nmake_ok h3 hg h1
        rw [List.append_assoc] at t1 t2
        obtain ⟨t', t3, t4⟩ := nmakes_ok h4 t1 h2
        refine ⟨t ++ t', by rw [← List.append_assoc r]; exact t3, ?_, by rw [← List.append_assoc r]; exact t4⟩
        have := xok_mono (t := t') t2
        rw [List.append_assoc, List.append_assoc] at this
        exact this
/-- the point at a node -/
def npt (nE : Nat) (d : XD) : Option (XC × XLf) := match nmakes nE (d.2.1.map (fun q => (q.1, q.2, []))) (d.2.2.1.map (·.2) ++ d.2.2.2.1) with
  | some (gi, xs) => match lms 1 d.2.2.2.2.2.1 xs ([], d.2.2.2.2.1) with
    | some F => match xrrc (xids nE ++ xs.map xnum) d.2.2.2.2.2.2 gi with
      | some gi' => some ((d.1, gi', (d.2.2.1.map (·.1)).zip xs, [], xs.drop d.2.2.1.length), F)
      | none => none
    | none => none
  | none => none
def nvals (L : List (Nat × XV)) : List (Nat × XP) → Option (List XV)
  | [] => some []
  | (i, _) :: r => match xget L i, nvals L r with
    | some x, some xs => some (x :: xs)
    | _, _ => none
def lneg (F : XLf) : XLf := (F.1.map (fun q => (q.1, - q.2)), - F.2)
/-- by a relation: a ghost is not above another and a number -/
def lsb (gi : List XI) (F : XLf) (u : Int) : Bool := F.1.any (fun q => decide (0 < q.2) && (match gi[q.1]? with
  | some (_, _, r) => r.any (fun w => match w with
    | .inl (.inl (some h, k)) => (match lup gi (lput h q.2 (lput q.1 (- q.2) F.1)) with
      | some s => decide (s + F.2 + q.2 * k ≤ u)
      | none => false)
    | _ => false)
  | none => false))
def lle (gi : List XI) (F : XLf) (u : Int) : Bool := (match lup gi F.1 with
  | some w => decide (w + F.2 ≤ u)
  | none => false) || lsb gi F u
/-- an arrival at a node: its point fits, and the measure has fallen -/
def narr (E : XE) (nE : Nat) (old : Option XLf) (d : XD) (x : XC) : Bool := match x with
  | (_, gi, L, S, V) => S.isEmpty && xcovs gi d.2.1 && decide (V.length = E.2.2.2.length) && (match nvals L d.2.2.1 with
    | some xs => xretL nE gi (d.2.2.1.map (·.2) ++ d.2.2.2.1) (xs ++ V) && xrch gi (xids nE ++ (xs ++ V).map xnum) d.2.2.2.2.2.2 && (match old with
      | none => true
      | some F => lle gi (lneg F) (-1) && (match lms 1 d.2.2.2.2.2.1 (xs ++ V) ((lneg F).1, (lneg F).2 + d.2.2.2.2.1) with
        | some F' => lle gi F' (-1)
        | none => false))
    | none => false)
theorem lneg_ok {Gs : List Int} {F : XLf} : lev' Gs (lneg F) = - lev' Gs F := by
  obtain ⟨F, c⟩ := F
  simp only [lneg, lev']
  have : ∀ F : List (Nat × Int), lev Gs (F.map (fun q => (q.1, - q.2))) = - lev Gs F := by
    intro F
    induction F with
    | nil => simp [lev]
    | cons q r ih => simp only [List.map_cons, lev, ih, Int.neg_mul]; omega
  rw [this]
  omega
theorem lev_fil {Gs : List Int} : ∀ (F : List (Nat × Int)), lev Gs (F.filter (fun q => !(q.2 == 0))) = lev Gs F
  | [] => rfl
  | (g, a) :: r => by
    by_cases c : a = 0
    · subst c
      rw [List.filter_cons_of_neg (by simp)]
      simp only [lev]
      rw [lev_fil r]
      omega
    · rw [List.filter_cons_of_pos (by simp [c])]
      simp only [lev]
      rw [lev_fil r]
theorem lle_ok {Gs : List Int} {gi : List XI} {F : XLf} {u : Int} (hg : gok Gs gi) (h : lle gi F u = true) : lev' Gs F ≤ u := by
  unfold lle at h
  simp only [Bool.or_eq_true] at h
  rcases h with h | h
  · cases h1 : lup gi F.1 with
    | none => rw [h1] at h; cases h
    | some w =>
      rw [h1] at h
      simp only [decide_eq_true_eq] at h
      have := lup_ok hg h1
      simp only [lev']
      omega
  · obtain ⟨⟨g, a⟩, hq, h2⟩ := List.any_eq_true.mp h
    simp only [Bool.and_eq_true, decide_eq_true_eq] at h2
    obtain ⟨ha, h2⟩ := h2
    split at h2
    · rename_i l u' r he
      obtain ⟨w, w1, w2⟩ := List.any_eq_true.mp h2
      split at w2
      · rename_i hh k
        split at w2
        · rename_i s hs
          simp only [decide_eq_true_eq] at w2
          have hlt : g < Gs.length := by rw [hg.1]; exact (List.getElem?_eq_some_iff.mp he).1
          obtain ⟨v, v1, v2⟩ := (hg.2 g l u' r _ he (List.getElem?_eq_getElem hlt)).2.2 _ w1
          have q1 := lup_ok hg hs
          rw [lput_ok, lput_ok] at q1
          simp only [xval] at v1
          cases hz : Gs[hh]? with
          | none => rw [hz] at v1; cases v1
          | some y =>
            rw [hz] at v1
            simp only [Option.map_some, Option.some.injEq] at v1
            rw [show Gs.getD g 0 = Gs[g] by rw [List.getD_eq_getElem?_getD, List.getElem?_eq_getElem hlt]; rfl, show Gs.getD hh 0 = y by rw [List.getD_eq_getElem?_getD, hz]; rfl] at q1
            have q2 : a * Gs[g] ≤ a * (y + k) := Int.mul_le_mul_of_nonneg_left (by omega) (by omega)
            rw [Int.mul_add] at q2
            rw [Int.neg_mul] at q1
            simp only [lev']
            omega
        · cases w2
      · cases w2
    · cases h2
theorem nvals_ok {B : Nat → Nat → Prop} {Gs : List Int} {L : List (Nat × XV)} {lv : List (Nat × Value)} (hL : LR B Gs L lv) : ∀ {ps : List (Nat × XP)} {xs : List XV}, nvals L ps = some xs → ∃ vs, SR B Gs xs vs ∧ vs.length = ps.length ∧ ∀ w, ∀ q ∈ (ps.map (·.1)).zip (vs ++ w), q ∈ lv
  | [], xs, h => by
    simp only [nvals, Option.some.injEq] at h
    subst h
    exact ⟨[], trivial, rfl, fun w q hq => by simp at hq⟩
  | (i, P) :: r, xs, h => by
    simp only [nvals] at h
    cases h1 : xget L i with
    | none => rw [h1] at h; cases h
    | some x =>
      cases h2 : nvals L r with
      | none => rw [h1, h2] at h; cases h
      | some ys =>
        rw [h1, h2] at h
        simp only [Option.some.injEq] at h
        subst h
        obtain ⟨k, v, a, b⟩ := xget_ok hL h1
        obtain ⟨vs, c, e, d⟩ := nvals_ok hL h2
        refine ⟨v :: vs, ⟨b, c⟩, by simp [e], fun w q hq => ?_⟩
        simp only [List.map_cons, List.cons_append, List.zip_cons_cons, List.mem_cons] at hq
        rcases hq with rfl | hq
        · exact List.mem_of_getElem? a
        · exact d w q hq
