/-! the run is sound -/
def XGok (l : Launch) (E : XE) (xt : XX) (D : va_G) (t : Nat → ClassId) (lo : Nat) (own : String) (ys : List XY) (g : XG) : Prop :=
  (TWX E xt lo ∧ STok E xt t) ∧ XQok own g.1.1 ∧ FLok own g.1.2.1 ∧ MLok own ys g.1.2.2.1 ∧ (∀ i, g.1.2.2.2 = some i → ACok own i) ∧ (∀ (no k : Nat) (Y : XY), g.2.2.1[no]? = some k → ys[no]? = some Y → Y.2.2.2.2 = k) ∧ (∀ q ∈ g.2.2.2, ∃ Y, ys[q.1]? = some Y ∧ HOLDS l E xt D t lo Y q.2)
theorem xfits_rok {B : Nat → Nat → Prop} {Gs G0 : List Int} {gi : List XI} {P : XP} {x : XV} {v : Value} (h : xfits gi P x = true) (hg : gok Gs gi) (hx : xok B Gs x v) : rok B G0 P v := by
  match P, x, h, hx with
  | .inl (.inl (lo, hi)), .inl (.inl n), h, ⟨i, e, hi'⟩ =>
    subst e
    simp only [xfits] at h
    cases hx : xiv gi n with
    | none => rw [hx] at h; cases h
    | some q =>
      obtain ⟨a, c⟩ := q
      rw [hx] at h
      simp only [Bool.and_eq_true, decide_eq_true_eq] at h
      have q := xiv_ok hg hx hi'
      exact ⟨i, rfl, by omega, by omega⟩
  | .inl (.inr (lo, hi)), .inl (.inr n), h, ⟨i, e, hi'⟩ =>
    subst e
    simp only [xfits] at h
    cases hx : xiv gi n with
    | none => rw [hx] at h; cases h
    | some q =>
      obtain ⟨a, c⟩ := q
      rw [hx] at h
      simp only [Bool.and_eq_true, decide_eq_true_eq] at h
      have q := xiv_ok hg hx hi'
      exact ⟨i, rfl, by omega, by omega⟩
  | .inr (.inl k), .inr (.inl k'), h, ⟨a, e, ha⟩ =>
    subst e
    simp only [xfits, beq_iff_eq] at h
    subst h
    exact ⟨a, rfl, ha⟩
theorem xval_pre {G0 r : List Int} {n : XN} {z : Int} (hn : (match n.1 with | none => true | some g => decide (g < G0.length)) = true) (h : xval (G0 ++ r) n = some z) : xval G0 n = some z := by
  obtain ⟨g, c⟩ := n
  cases g with
  | none => exact h
  | some g =>
    simp only [decide_eq_true_eq] at hn
    simp only [xval] at h ⊢
    rw [List.getElem?_append_left hn] at h
    exact h
theorem xretf_ok {B : Nat → Nat → Prop} {G0 r : List Int} {gi : List XI} {P : XP} {x : XV} {v : Value} (h : xretf G0.length gi P x = true) (hg : gok (G0 ++ r) gi) (hx : xok B (G0 ++ r) x v) : rok B G0 P v := by
  unfold xretf at h
  split at h
  · rename_i n n'
    simp only [Bool.and_eq_true, beq_iff_eq] at h
    obtain ⟨rfl, h2⟩ := h
    obtain ⟨i, e, hi⟩ := hx
    exact ⟨i, e, xval_pre h2 hi⟩
  · rename_i n n'
    simp only [Bool.and_eq_true, beq_iff_eq] at h
    obtain ⟨rfl, h2⟩ := h
    obtain ⟨i, e, hi⟩ := hx
    exact ⟨i, e, xval_pre h2 hi⟩
  · exact xfits_rok h hg hx
theorem xretL_ok {B : Nat → Nat → Prop} {G0 r : List Int} {gi : List XI} (hg : gok (G0 ++ r) gi) : ∀ {ps : List XP} {xs : List XV} {vs : List Value}, xretL G0.length gi ps xs = true → SR B (G0 ++ r) xs vs → ROK B G0 ps vs
  | [], [], [], _, _ => trivial
  | P :: ps, x :: xs, v :: vs, h, ⟨h1, h2⟩ => by
    simp only [xretL, Bool.and_eq_true] at h
    exact ⟨xretf_ok h.1 hg h1, xretL_ok hg h.2 h2⟩
theorem xcovs_ok : ∀ {gi : List XI} {bs : List (Int × Int)} {g : Nat} {u w : Int}, xcovs gi bs = true → bs[g]? = some (u, w) → ∃ l h r, gi[g]? = some (l, h, r) ∧ u ≤ l ∧ h ≤ w
  | [], (_, _) :: bs, g, u, w, h, _ => by simp [xcovs] at h
  | (l, h', r) :: gi, (u', w') :: bs, g, u, w, h, hb => by
    simp only [xcovs, Bool.and_eq_true, decide_eq_true_eq] at h
    match g, hb with
    | 0, hb =>
      simp only [List.getElem?_cons_zero, Option.some.injEq, Prod.mk.injEq] at hb
      obtain ⟨rfl, rfl⟩ := hb
      exact ⟨l, h', r, rfl, h.1.1, h.1.2⟩
    | g + 1, hb =>
      obtain ⟨a, b, c, d, e, f⟩ := xcovs_ok h.2 (by simpa using hb)
      exact ⟨a, b, c, by simpa using d, e, f⟩
section XRR
variable {E : XE} {xt : XX} {D : va_G} {t : Nat → ClassId} {lo : Nat} {G0 : List Int} {f0 : Nat → va_E} {A : Nat → Prop}
variable {p : Program} {l : Launch} {e : Env} {R : Room} {s : State} {m : MethodId} {args : Array Value} {below : List Frame} {meth : Method} {c : Code} {H : Heap} {locs : List Loc} {cells slots : Nat} {Q : State → Prop}
variable {cc : ByteArray} {own : String} {nl : Nat} {ret : Option FieldType} {ls : Array Slot} {st : List Value} {x : XC} {xs : List XC} {ins : Instr} {pc : Nat}
theorem xstep_ok {g : XG} {ys : List XY} {len : Nat} (X : CX p s m args meth c own cc nl ret) (hG : XGok l E xt D t lo own ys g) (hnl : g.2.1.1 = nl) (hRk : g.2.1.2 ≤ R.frames ∧ 60 * g.2.1.2 ≤ R.locals) (hRc : cells ≤ R.cells ∧ slots ≤ R.slots) (hd : decode cc x.1 = .ok (ins, len)) (h : xstep E g ins len x = some xs) (hs : SAT E xt D t lo G0 f0 A s nl x H locs ls st)
    (kk : ∀ y ∈ xs, GO E xt D t lo G0 f0 A nl p l e R s m args below meth c cells slots Q y) : W p l e R s m args below meth c H locs cells slots Q (F0 m x.1 ls st) := by
  obtain ⟨⟨hw, hst⟩, hq, hf, hm, ha, hdp, hce⟩ := hG
  unfold xstep at h
  split at h
  · exact stepW_ok X hd h hs kk
  · by_cases c1 : len = xlen ins
    · rw [if_pos c1] at h
      subst c1
      cases h1 : stepB g.2.1.1 g.1.1 ins x with
      | some r => rw [h1] at h; cases h; rw [hnl] at h1; exact stepB_ok X hq hd h1 hs kk
      | none =>
        rw [h1] at h
        simp only at h
        cases h2 : stepD E g.1.2.1 ins x with
        | some r => rw [h2] at h; cases h; exact stepD_ok hf hw X hd h2 hs kk
        | none =>
          rw [h2] at h
          simp only at h
          cases h3 : stepC ins x with
          | some r => rw [h3] at h; cases h; exact stepC_ok X hd h3 hs kk
          | none =>
            rw [h3] at h
            simp only at h
            cases h4 : stepA ins x with
            | some r => rw [h4] at h; cases h; exact stepA_ok X hd h4 hs kk
            | none =>
              rw [h4] at h
              simp only at h
              cases h5 : stepE g.2.1.2 g.2.2.1 E g.1.2.2.1 g.2.2.2 ins x with
              | some r => rw [h5] at h; cases h; exact stepE_ok X hm hce hdp hRk hRc hd h5 hs kk
              | none =>
                rw [h5] at h
                simp only at h
                cases h6 : stepG g.2.1.2 g.1.2.2.1 ins x with
                | some r => rw [h6] at h; cases h; exact stepG_ok X hm hRk hRc hd h6 hs kk
                | none =>
                  rw [h6] at h
                  simp only at h
                  cases h7 : stepH g.2.1.2 g.1.2.2.1 ins x with
                  | some r => rw [h7] at h; cases h; exact stepH_ok X hst hm hRk hRc hd h7 hs kk
                  | none =>
                    rw [h7] at h
                    exact stepF_ok X ha hw hRk hd h hs kk
    · rw [if_neg c1] at h; cases h
theorem xend_ok {M : XM} {rt len : Nat} (X : CX p s m args meth c own cc nl ret) (hrt : RTok rt ret) (hE : G0.length = M.1.length + M.2.1.length) (hd : decode cc x.1 = .ok (ins, len)) (h : xend E M rt ins x = true) (hlen : len = 1) (hs : SAT E xt D t lo G0 f0 (px_A lo E.2.1.length) s nl x H locs ls st) : W p l e R s m args below meth c H locs cells slots (MQ below (QcX E xt D t lo M G0 f0) args s cells slots (px_A lo E.2.1.length)) (F0 m x.1 ls st) := by
  subst hlen
  have key : ∀ (gi : List XI) (V : List XV) (r : Option XV) (Gs : List Int) (f : Nat → va_E) (ov : Option Value), (decide (V.length = E.2.2.2.length) && M.2.2.1.any (fun o => xcovs gi o.1 && xretL (M.1.length + M.2.1.length) gi o.2.2.1 V && xrch gi (xids (M.1.length + M.2.1.length) ++ (V.map xnum ++ r.toList.map xnum)) o.2.2.2 && (match o.2.1, r with
    | none, none => true
    | some P, some v => xretf (M.1.length + M.2.1.length) gi P v
    | _, _ => false))) = true → (∃ r, Gs = G0 ++ r) → gok Gs gi → VOK E xt lo Gs V f → (match r, ov with | none, none => True | some y, some v => xok (xB E lo xt) Gs y v | _, _ => False) → ∃ o, o ∈ M.2.2.1 ∧ OOK E xt lo G0 o ov f := by
    intro gi V r Gs f ov h hr0 hg hV hr
    obtain ⟨r0, rfl⟩ := hr0
    simp only [Bool.and_eq_true, decide_eq_true_eq] at h
    obtain ⟨hlen, h⟩ := h
    obtain ⟨o, ho, h1⟩ := List.any_eq_true.mp h
    simp only [Bool.and_eq_true] at h1
    obtain ⟨⟨⟨h1, h2⟩, h4⟩, h3⟩ := h1
    rw [← hE] at h2 h3 h4
    obtain ⟨vv, v1, v2⟩ := VOK_vals hV hlen
    refine ⟨o, ho, ?_, ?_, vv, v2, xretL_ok hg h2 v1, ?_⟩
    · intro gg u w z a b
      obtain ⟨l1, h1', r1, q1, q2, q3⟩ := xcovs_ok h1 a
      have hlt : gg < G0.length := (List.getElem?_eq_some_iff.mp b).1
      have := hg.2 gg l1 h1' r1 z q1 (by rw [List.getElem?_append_left hlt]; exact b)
      omega
    · match o.2.1, r, ov, h3, hr with
      | none, none, none, _, _ => trivial
      | some P, some y, some v, h3, hr => exact xretf_ok h3 hg hr
    · have hrr : NR (G0 ++ r0) (r.toList.map xnum) (ov.toList.map gv) := by
        match r, ov, hr with
        | none, none, _ => exact ⟨rfl, fun i n z h => by simp at h⟩
        | some y, some v, hr => exact NR_SR (xs := [y]) (vs := [v]) ⟨hr, trivial⟩
      exact xrch_ok hg (NR_app NR_id (NR_app (NR_SR v1) hrr)) h4
  obtain ⟨Gs, f, lv, hr0, hg, hl, hL, hS, hV, hT, hZ, hH⟩ := hs
  unfold xend at h
  simp only at h
  split at h
  · rename_i x pc gi L n V
    obtain ⟨v1, st1, rfl, hv1, hS1⟩ := SR_cons hS
    match st1, hS1 with
    | [], _ =>
      simp only [Bool.and_eq_true, Bool.or_eq_true, beq_iff_eq] at h
      obtain ⟨h1, h2⟩ := h
      obtain ⟨o, o1, o2⟩ := key gi V (some (.inl (.inl n))) Gs f (some v1) (by rw [Bool.and_eq_true]; exact h2) hr0 hg hV hv1
      have hv2 := hv1
      obtain ⟨i, rfl, hi⟩ := hv1
      rcases h1 with h1 | ⟨h1, h3⟩
      · subst h1
        have : ret = some .int := hrt
        subst this
        exact W.iret X.1 X.2.1 X.2.2.2.2.2.2 (fun tt ht hW => ⟨_, f, o, rfl, o1, o2, hT, hZ, by rw [ht]; exact hH.2.1, hH.2.2.2.F ht⟩) hH.2.2.2.2.2 hd X.2.2.2.2.2.1
      · subst h1
        have : ret = some .boolean := hrt
        subst this
        obtain ⟨i', e', b1, b2⟩ := xfits_rok (G0 := G0) h3 hg hv2
        cases e'
        refine W.zret X.1 X.2.1 X.2.2.2.2.2.2 ?_ (fun tt ht hW => ⟨_, f, o, rfl, o1, o2, hT, hZ, by rw [ht]; exact hH.2.1, hH.2.2.2.F ht⟩) hH.2.2.2.2.2 hd X.2.2.2.2.2.1
        rcases bool_01 b1 b2 with rfl | rfl
        · rfl
        · rfl
  · rename_i x pc gi L n V
    obtain ⟨v1, st1, rfl, hv1, hS1⟩ := SR_cons hS
    match st1, hS1 with
    | [], _ =>
      simp only [Bool.and_eq_true, beq_iff_eq] at h
      obtain ⟨h1, h2⟩ := h
      obtain ⟨o, o1, o2⟩ := key gi V (some (.inl (.inr n))) Gs f (some v1) (by rw [Bool.and_eq_true]; exact h2) hr0 hg hV hv1
      obtain ⟨i, rfl, hi⟩ := hv1
      subst h1
      have : ret = some .long := hrt
      subst this
      exact W.lret X.1 X.2.1 X.2.2.2.2.2.2 (fun tt ht hW => ⟨_, f, o, rfl, o1, o2, hT, hZ, by rw [ht]; exact hH.2.1, hH.2.2.2.F ht⟩) hH.2.2.2.2.2 hd X.2.2.2.2.2.1
  · rename_i x pc gi L V
    match st, hS with
    | [], _ =>
      simp only [Bool.and_eq_true, beq_iff_eq] at h
      obtain ⟨h1, h2⟩ := h
      obtain ⟨o, o1, o2⟩ := key gi V none Gs f none (by rw [Bool.and_eq_true]; exact h2) hr0 hg hV trivial
      subst h1
      have : ret = none := hrt
      subst this
      exact W.vret X.1 X.2.1 X.2.2.2.2.2.2 (fun tt ht hW => ⟨_, f, o, rfl, o1, o2, hT, hZ, by rw [ht]; exact hH.2.1, hH.2.2.2.F ht⟩) hH.2.2.2.2.2 hd X.2.2.2.2.2.1
  · rename_i x pc gi L k V
    obtain ⟨v1, st1, rfl, hv1, hS1⟩ := SR_cons hS
    match st1, hS1 with
    | [], _ =>
      simp only [Bool.and_eq_true, beq_iff_eq] at h
      obtain ⟨h1, h2⟩ := h
      obtain ⟨o, o1, o2⟩ := key gi V (some (.inr (.inl k))) Gs f (some v1) (by rw [Bool.and_eq_true]; exact h2) hr0 hg hV hv1
      obtain ⟨i, rfl, hi⟩ := hv1
      subst h1
      obtain ⟨C, this⟩ : ∃ C, ret = some (.object C) := hrt
      subst this
      exact W.aret X.1 X.2.1 X.2.2.2.2.2.2 (Or.inl ⟨C, rfl⟩) (Or.inr ⟨i, rfl⟩) (fun tt ht hW => ⟨_, f, o, rfl, o1, o2, hT, hZ, by rw [ht]; exact hH.2.1, hH.2.2.2.F ht⟩) hH.2.2.2.2.2 hd X.2.2.2.2.2.1
  · cases h
theorem xrun_ok {g : XG} {ys : List XY} {M : XM} {rt : Nat} (X : CX p s m args meth c own cc nl ret) (hrt : RTok rt ret) (hE : G0.length = M.1.length + M.2.1.length) (hG : XGok l E xt D t lo own ys g) (hnl : g.2.1.1 = nl) (hRk : g.2.1.2 ≤ R.frames ∧ 60 * g.2.1.2 ≤ R.locals) (hRc : cells ≤ R.cells ∧ slots ≤ R.slots) : ∀ (fuel : Nat) (x : XC), xrun E g M rt cc fuel x = true → GO E xt D t lo G0 f0 (px_A lo E.2.1.length) nl p l e R s m args below meth c cells slots (MQ below (QcX E xt D t lo M G0 f0) args s cells slots (px_A lo E.2.1.length)) x := by
  intro fuel
  induction fuel with
  | zero => intro x h; cases h
  | succ n ih =>
    intro x h H locs ls st hs
    have e1 : xrun E g M rt cc (n + 1) x = nforce x.1 (fun pc => match decode cc pc with
      | .ok (ins, len) => if xend E M rt ins (pc, x.2) = true then decide (len = 1) else (match xstep E g ins len (pc, x.2) with
        | some ys => ys.all (xrun E g M rt cc n)
        | none => false)
      | .error _ => false) := rfl
    rw [e1, nforce_eq] at h
    cases hd : decode cc x.1 with
    | error _ => rw [hd] at h; cases h
    | ok r =>
      obtain ⟨ins, len⟩ := r
      rw [hd] at h
      simp only at h
      by_cases c1 : xend E M rt ins (x.1, x.2) = true
      · rw [if_pos c1] at h
        exact xend_ok X hrt hE hd c1 (of_decide_eq_true h) hs
      · rw [if_neg c1] at h
        cases h2 : xstep E g ins len (x.1, x.2) with
        | none => rw [h2] at h; cases h
        | some zs =>
          rw [h2] at h
          exact xstep_ok X hG hnl hRk hRc hd h2 hs (fun y hy => ih y (List.all_eq_true.mp h y hy))
end XRR
