/-! calls: what is proved of them -/
theorem SR_len {B : Nat → Nat → Prop} {Gs : List Int} : ∀ {S : List XV} {st : List Value}, SR B Gs S st → S.length = st.length
  | [], [], _ => rfl
  | _ :: _, _ :: _, ⟨_, h⟩ => by simp [SR_len h]
theorem SR_app {B : Nat → Nat → Prop} {Gs : List Int} : ∀ {S1 S2 : List XV} {s1 s2 : List Value}, SR B Gs S1 s1 → SR B Gs S2 s2 → SR B Gs (S1 ++ S2) (s1 ++ s2)
  | [], _, [], _, _, h => h
  | _ :: _, _, _ :: _, _, ⟨a, b⟩, h => ⟨a, SR_app b h⟩
theorem xpop_ok {B : Nat → Nat → Prop} {Gs : List Int} : ∀ (n : Nat) (acc S as S' : List XV) (va st : List Value), xpop n acc S = some (as, S') → SR B Gs acc va → SR B Gs S st → ∃ vs st', SR B Gs as vs ∧ SR B Gs S' st' ∧ vs.length = va.length + n ∧ ∃ ws, vs = ws ++ va ∧ st = ws.reverse ++ st'
  | 0, acc, S, as, S', va, st, h, ha, hs => by
    simp only [xpop, Option.some.injEq, Prod.mk.injEq] at h
    obtain ⟨rfl, rfl⟩ := h
    exact ⟨va, st, ha, hs, rfl, [], rfl, rfl⟩
  | n + 1, acc, [], as, S', va, st, h, ha, hs => by simp [xpop] at h
  | n + 1, acc, x :: S, as, S', va, st, h, ha, hs => by
    obtain ⟨v, st1, rfl, h1, h2⟩ := SR_cons hs
    obtain ⟨vs, st', q1, q2, q3, ws, q4, q5⟩ := xpop_ok n (x :: acc) S as S' (v :: va) st1 (by simpa [xpop] using h) ⟨h1, ha⟩ h2
    refine ⟨vs, st', q1, q2, by rw [q3]; simp; omega, ws ++ [v], by rw [q4]; simp, by rw [q5]; simp⟩
theorem SR_cat {B : Nat → Nat → Prop} {Gs : List Int} : ∀ {S : List XV} {st : List Value}, SR B Gs S st → (st.map fun v => v.category) = S.map xcat
  | [], [], _ => rfl
  | _ :: _, _ :: _, ⟨h1, h2⟩ => by simp only [List.map_cons, SR_cat h2, xcat_ok h1]
theorem xfits_ok {B : Nat → Nat → Prop} {Gs : List Int} {gi : List XI} {P : XP} {x : XV} {v : Value} (h : xfits gi P x = true) (hg : gok Gs gi) (hx : xok B Gs x v) : pok B P v (gv v) := by
  match P, x, h, hx with
  | .inl (.inl (lo, hi)), .inl (.inl n), h, ⟨i, e, hi'⟩ =>
    subst e
    simp only [xfits] at h
    cases hx : xiv gi n with
    | none => rw [hx] at h; cases h
    | some q =>
      obtain ⟨a, c⟩ := q
      rw [hx] at h
      simp only [Bool.and_eq_true, decide_eq_true_eq] at h
      have q := xiv_ok hg hx hi'
      exact ⟨i, rfl, rfl, by simp only [gv]; omega, by simp only [gv]; omega⟩
  | .inl (.inr (lo, hi)), .inl (.inr n), h, ⟨i, e, hi'⟩ =>
    subst e
    simp only [xfits] at h
    cases hx : xiv gi n with
    | none => rw [hx] at h; cases h
    | some q =>
      obtain ⟨a, c⟩ := q
      rw [hx] at h
      simp only [Bool.and_eq_true, decide_eq_true_eq] at h
      have q := xiv_ok hg hx hi'
      exact ⟨i, rfl, rfl, by simp only [gv]; omega, by simp only [gv]; omega⟩
  | .inr (.inl k), .inr (.inl k'), h, ⟨a, e, ha⟩ =>
    subst e
    simp only [xfits, beq_iff_eq] at h
    subst h
    exact ⟨⟨a, rfl, ha⟩, rfl⟩
theorem xfitl_ok {B : Nat → Nat → Prop} {Gs : List Int} {gi : List XI} (hg : gok Gs gi) : ∀ {ps : List XP} {xs : List XV} {vs : List Value}, xfitl gi ps xs = true → SR B Gs xs vs → AOK B ps vs (vs.map gv)
  | [], [], [], _, _ => trivial
  | P :: ps, x :: xs, v :: vs, h, ⟨h1, h2⟩ => by
    simp only [xfitl, Bool.and_eq_true] at h
    exact ⟨xfits_ok h.1 hg h1, xfitl_ok hg h.2 h2⟩
theorem xval_gv {B : Nat → Nat → Prop} {Gs : List Int} {x : XV} {v : Value} (h : xok B Gs x v) : (∀ n, x = .inl (.inl n) → xval Gs n = some (gv v)) ∧ (∀ n, x = .inl (.inr n) → xval Gs n = some (gv v)) := by
  match x, h with
  | .inl (.inl n), ⟨i, h1, h2⟩ => subst h1; exact ⟨(fun m q => by cases q; exact h2), (fun m q => by cases q)⟩
  | .inl (.inr n), ⟨i, h1, h2⟩ => subst h1; exact ⟨(fun m q => by cases q), (fun m q => by cases q; exact h2)⟩
  | .inr (.inl k), h => exact ⟨(fun m q => by cases q), (fun m q => by cases q)⟩
  | .inr (.inr _), h => exact ⟨(fun m q => by cases q), (fun m q => by cases q)⟩
theorem xcuts_ok {B : Nat → Nat → Prop} {Gs : List Int} : ∀ {xs : List XV} {gi : List XI} {vs : List Value} {bs : List (Int × Int)}, gok Gs gi → SR B Gs xs vs → (∀ (g : Nat) (u w z : Int), bs[g]? = some (u, w) → (vs.map gv)[g]? = some z → u ≤ z ∧ z ≤ w) → ∃ g, xcuts gi xs bs = some g ∧ gok Gs g
  | [], gi, [], bs, hg, _, _ => ⟨gi, by simp [xcuts], hg⟩
  | x :: xs, gi, v :: vs, [], hg, _, _ => ⟨gi, by simp [xcuts], hg⟩
  | x :: xs, gi, v :: vs, (u, w) :: bs, hg, ⟨h1, h2⟩, hb => by
    have h0 := hb 0 u w (gv v) rfl rfl
    have hr : ∀ (g : Nat) (u w z : Int), bs[g]? = some (u, w) → (vs.map gv)[g]? = some z → u ≤ z ∧ z ≤ w := fun g u w z a b => hb (g + 1) u w z (by simpa using a) (by simpa using b)
    obtain ⟨k1, k2⟩ := xval_gv h1
    match x, k1, k2 with
    | .inl (.inl n), k1, k2 =>
      obtain ⟨a, b, e1, -, -⟩ := xiv_some hg (k1 n rfl)
      obtain ⟨g, g1, g2⟩ := xcutR_ok (lo := u) (hi := w) hg e1 (k1 n rfl) h0.1 h0.2
      obtain ⟨g', g3, g4⟩ := xcuts_ok g2 h2 hr
      exact ⟨g', by simp only [xcuts, g1]; exact g3, g4⟩
    | .inl (.inr n), k1, k2 =>
      obtain ⟨a, b, e1, -, -⟩ := xiv_some hg (k2 n rfl)
      obtain ⟨g, g1, g2⟩ := xcutR_ok (lo := u) (hi := w) hg e1 (k2 n rfl) h0.1 h0.2
      obtain ⟨g', g3, g4⟩ := xcuts_ok g2 h2 hr
      exact ⟨g', by simp only [xcuts, g1]; exact g3, g4⟩
    | .inr _, k1, k2 =>
      obtain ⟨g', g3, g4⟩ := xcuts_ok hg h2 hr
      exact ⟨g', by simp only [xcuts]; exact g3, g4⟩
theorem SR_at {B : Nat → Nat → Prop} {Gs : List Int} : ∀ {xs : List XV} {vs : List Value} {g : Nat} {x : XV}, SR B Gs xs vs → xs[g]? = some x → ∃ v, vs[g]? = some v ∧ xok B Gs x v
  | [], [], g, x, _, h => by simp at h
  | y :: xs, v :: vs, 0, x, ⟨h1, _⟩, h => by
    simp only [List.getElem?_cons_zero, Option.some.injEq] at h
    subst h
    exact ⟨v, rfl, h1⟩
  | y :: xs, v :: vs, g + 1, x, ⟨_, h2⟩, h => by
    obtain ⟨w, a, b⟩ := SR_at h2 (by simpa using h)
    exact ⟨w, by simpa using a, b⟩
theorem xent_ok {B : Nat → Nat → Prop} {Gs : List Int} {cur : List XV} {vs : List Value} {n a : XN} {z : Int} (h : xent cur n = some a) (hs : SR B Gs cur vs) (hz : xval (vs.map gv) n = some z) : xval Gs a = some z := by
  obtain ⟨g, c⟩ := n
  cases g with
  | none =>
    simp only [xent, Option.some.injEq] at h
    subst h
    exact hz
  | some g =>
    simp only [xent] at h
    simp only [xval] at hz
    cases hc : cur[g]? with
    | none => rw [hc] at h; cases h
    | some y =>
      rw [hc] at h
      obtain ⟨v, hv, hx⟩ := SR_at hs hc
      obtain ⟨k1, k2⟩ := xval_gv hx
      rw [List.getElem?_map, hv] at hz
      simp only [Option.map_some, Option.some.injEq] at hz
      match y, h, k1, k2 with
      | .inl (.inl b), h, k1, k2 =>
        simp only [Option.some.injEq] at h
        subst h
        rw [xval_add (k1 b rfl), hz]
      | .inl (.inr b), h, k1, k2 =>
        simp only [Option.some.injEq] at h
        subst h
        rw [xval_add (k2 b rfl), hz]
      | .inr _, h, k1, k2 => cases h
theorem xinst_ok {B : Nat → Nat → Prop} {Gs : List Int} {cur : List XV} {vs : List Value} {gi g : List XI} {P : XP} {y : XV} {v : Value} (h : xinst cur gi P = some (g, y)) (hg : gok Gs gi) (hs : SR B Gs cur vs) (hr : rok B (vs.map gv) P v) : ∃ t, gok (Gs ++ t) g ∧ xok B (Gs ++ t) y v := by
  match P, h, hr with
  | .inl (.inl (lo, hi)), h, ⟨i, e, h1, h2⟩ =>
    subst e
    simp only [xinst, Option.some.injEq, Prod.mk.injEq] at h
    obtain ⟨rfl, rfl⟩ := h
    obtain ⟨t, t1, t2⟩ := xmk_ok0 hg h1 h2
    exact ⟨t, t1, i, rfl, t2⟩
  | .inl (.inr (lo, hi)), h, ⟨i, e, h1, h2⟩ =>
    subst e
    simp only [xinst, Option.some.injEq, Prod.mk.injEq] at h
    obtain ⟨rfl, rfl⟩ := h
    obtain ⟨t, t1, t2⟩ := xmk_ok0 hg h1 h2
    exact ⟨t, t1, i, rfl, t2⟩
  | .inr (.inl k), h, hr =>
    simp only [xinst, Option.some.injEq, Prod.mk.injEq] at h
    obtain ⟨rfl, rfl⟩ := h
    exact ⟨[], by simpa using hg, hr⟩
  | .inr (.inr (.inl n)), h, ⟨i, e, h1⟩ =>
    subst e
    simp only [xinst] at h
    cases hx : xent cur n with
    | none => rw [hx] at h; cases h
    | some a =>
      rw [hx] at h
      simp only [Option.some.injEq, Prod.mk.injEq] at h
      obtain ⟨rfl, rfl⟩ := h
      exact ⟨[], by simpa using hg, i, rfl, by simpa using xent_ok hx hs h1⟩
  | .inr (.inr (.inr n)), h, ⟨i, e, h1⟩ =>
    subst e
    simp only [xinst] at h
    cases hx : xent cur n with
    | none => rw [hx] at h; cases h
    | some a =>
      rw [hx] at h
      simp only [Option.some.injEq, Prod.mk.injEq] at h
      obtain ⟨rfl, rfl⟩ := h
      exact ⟨[], by simpa using hg, i, rfl, by simpa using xent_ok hx hs h1⟩
/-- V behind a call -/
theorem xinsts_ok {B : Nat → Nat → Prop} {cur : List XV} {vs : List Value} : ∀ {ps : List XP} {gi g : List XI} {V : List XV} {Gs : List Int} {vv : List Value}, xinsts cur gi ps = some (g, V) → gok Gs gi → SR B Gs cur vs → ROK B (vs.map gv) ps vv → ∃ t, gok (Gs ++ t) g ∧ SR B (Gs ++ t) V vv
  | [], gi, g, V, Gs, [], h, hg, hs, hr => by
    simp only [xinsts, Option.some.injEq, Prod.mk.injEq] at h
    obtain ⟨rfl, rfl⟩ := h
    exact ⟨[], by simpa using hg, trivial⟩
  | P :: ps, gi, g, V, Gs, v :: vv, h, hg, hs, ⟨hr1, hr2⟩ => by
    simp only [xinsts] at h
    cases h1 : xinst cur gi P with
    | none => rw [h1] at h; cases h
    | some q =>
      obtain ⟨g1, y⟩ := q
      rw [h1] at h
      simp only at h
      cases h2 : xinsts cur g1 ps with
      | none => rw [h2] at h; cases h
      | some q =>
        obtain ⟨g2, W⟩ := q
        rw [h2] at h
        simp only [Option.some.injEq, Prod.mk.injEq] at h
        obtain ⟨rfl, rfl⟩ := h
        obtain ⟨t, t1, t2⟩ := xinst_ok h1 hg hs hr1
        obtain ⟨t', t3, t4⟩ := xinsts_ok h2 t1 (SR_mono hs) hr2
        refine ⟨t ++ t', by rw [← List.append_assoc]; exact t3, ?_, by rw [← List.append_assoc]; exact t4⟩
        rw [← List.append_assoc]
        exact xok_mono t2
/-! relations -/
def NR (Gs : List Int) (ns : List (Option XN)) (zs : List Int) : Prop := ns.length = zs.length ∧ ∀ (i : Nat) (n : XN) (z : Int), ns[i]? = some (some n) → zs[i]? = some z → xval Gs n = some z
theorem NR_app {Gs : List Int} {a b : List (Option XN)} {x y : List Int} (h1 : NR Gs a x) (h2 : NR Gs b y) : NR Gs (a ++ b) (x ++ y) := by
  refine ⟨by simp [h1.1, h2.1], fun i n z hn hz => ?_⟩
  by_cases c : i < a.length
  · rw [List.getElem?_append_left c] at hn
    rw [List.getElem?_append_left (by rw [← h1.1]; exact c)] at hz
    exact h1.2 i n z hn hz
  · rw [List.getElem?_append_right (by omega)] at hn
    rw [List.getElem?_append_right (by rw [← h1.1]; omega), ← h1.1] at hz
    exact h2.2 _ n z hn hz
theorem NR_SR {B : Nat → Nat → Prop} {Gs : List Int} {xs : List XV} {vs : List Value} (h : SR B Gs xs vs) : NR Gs (xs.map xnum) (vs.map gv) := by
  refine ⟨by simp [SR_len h], fun i n z hn hz => ?_⟩
  rw [List.getElem?_map] at hn hz
  cases hx : xs[i]? with
  | none => rw [hx] at hn; cases hn
  | some x =>
    obtain ⟨v, hv, hk⟩ := SR_at h hx
    rw [hx] at hn
    rw [hv] at hz
    simp only [Option.map_some, Option.some.injEq] at hn hz
    subst hz
    obtain ⟨k1, k2⟩ := xval_gv hk
    match x, hn, k1, k2 with
    | .inl (.inl m), hn, k1, k2 => simp only [xnum, Option.some.injEq] at hn; subst hn; exact k1 _ rfl
    | .inl (.inr m), hn, k1, k2 => simp only [xnum, Option.some.injEq] at hn; subst hn; exact k2 _ rfl
    | .inr (.inl _), hn, k1, k2 => cases hn
    | .inr (.inr _), hn, k1, k2 => cases hn
theorem NR_id {G0 r : List Int} : NR (G0 ++ r) (xids G0.length) G0 := by
  refine ⟨by simp [xids], fun i n z hn hz => ?_⟩
  have hlt : i < G0.length := (List.getElem?_eq_some_iff.mp hz).1
  simp only [xids, List.getElem?_map, List.getElem?_range hlt, Option.map_some, Option.some.injEq] at hn
  subst hn
  simp only [xval]
  rw [List.getElem?_append_left hlt, hz]
  simp
theorem NR_get {Gs : List Int} {ns : List (Option XN)} {zs : List Int} (h : NR Gs ns zs) {i : Nat} {n : XN} (hn : ns[i]? = some (some n)) : ∃ z, zs[i]? = some z ∧ xval Gs n = some z := by
  have hlt : i < zs.length := by rw [← h.1]; exact (List.getElem?_eq_some_iff.mp hn).1
  exact ⟨_, List.getElem?_eq_getElem hlt, h.2 i n _ hn (List.getElem?_eq_getElem hlt)⟩
theorem xrch_ok {Gs : List Int} {gi : List XI} {ns : List (Option XN)} {zs : List Int} {R : XR} (hg : gok Gs gi) (hn : NR Gs ns zs) (h : xrch gi ns R = true) : rrel zs R := by
  intro q hq x y hx hy
  have h1 := List.all_eq_true.mp h q hq
  split at h1
  · rename_i a b e1 e2
    obtain ⟨z1, a1, a2⟩ := NR_get hn e1
    obtain ⟨z2, b1, b2⟩ := NR_get hn e2
    rw [hx] at a1
    rw [hy] at b1
    cases a1
    cases b1
    exact xleq_ok hg a2 (xval_off b2) h1
  · cases h1
theorem xtr_ok {Gs : List Int} {gi : List XI} {g : Nat} {b : XN} {z y : Int} (hg : gok Gs gi) (hz : Gs[g]? = some z) (hb : xval Gs b = some y) (hle : z ≤ y) : gok Gs (xtr gi g b) := by
  refine ⟨by simp [xtr, hg.1], fun i lo hi r x hi' hx => ?_⟩
  simp only [xtr, List.getElem?_map] at hi'
  cases he : gi[i]? with
  | none => rw [he] at hi'; cases hi'
  | some q =>
    obtain ⟨l, h, r0⟩ := q
    rw [he] at hi'
    simp only [Option.map_some, Option.some.injEq, Prod.mk.injEq] at hi'
    obtain ⟨rfl, rfl, rfl⟩ := hi'
    obtain ⟨q1, q2, q3⟩ := hg.2 i _ _ r0 x he hx
    refine ⟨q1, q2, fun u hu => ?_⟩
    rcases List.mem_append.mp hu with hu | hu
    · exact q3 u hu
    · obtain ⟨w, w1, w2⟩ := List.mem_filterMap.mp hu
      unfold xtr1 at w2
      split at w2
      · rename_i hh k
        split at w2
        · rename_i e
          subst e
          cases w2
          obtain ⟨v, v1, v2⟩ := q3 _ w1
          simp only [xval, hz, Option.map_some, Option.some.injEq] at v1
          exact ⟨_, xval_off (d := k) hb, by omega⟩
        · cases w2
      · cases w2
theorem xrrc_ok {Gs : List Int} {ns : List (Option XN)} {zs : List Int} (hn : NR Gs ns zs) : ∀ {R : XR} {gi : List XI}, gok Gs gi → rrel zs R → ∃ g, xrrc ns R gi = some g ∧ gok Gs g
  | [], gi, hg, _ => ⟨gi, rfl, hg⟩
  | q :: R, gi, hg, h => by
    have ih : ∀ {gi : List XI}, gok Gs gi → ∃ g, xrrc ns R gi = some g ∧ gok Gs g := fun hg => xrrc_ok hn hg (fun q hq => h q (List.mem_cons_of_mem _ hq))
    simp only [xrrc]
    split
    · rename_i a b e1 e2
      obtain ⟨z1, a1, a2⟩ := NR_get hn e1
      obtain ⟨z2, b1, b2⟩ := NR_get hn e2
      obtain ⟨g, g1, g2⟩ := xle_ok hg a2 (xval_off (d := q.2.2) b2) (h q List.mem_cons_self _ _ a1 b1)
      rw [g1]
      simp only
      split
      · rename_i hh ha'
        obtain ⟨ga, ca⟩ := a
        simp only at ha'
        subst ha'
        simp only [xval] at a2
        cases hz : Gs[hh]? with
        | none => rw [hz] at a2; cases a2
        | some z =>
          rw [hz] at a2
          simp only [Option.map_some, Option.some.injEq] at a2
          have hle := h q List.mem_cons_self _ _ a1 b1
          refine ih (xtr_ok g2 hz (y := z2 + q.2.2 - ca) ?_ (by omega))
          have := xval_off (d := q.2.2 - ca) b2
          rw [show b.2 + q.2.2 - ca = b.2 + (q.2.2 - ca) by omega, show z2 + q.2.2 - ca = z2 + (q.2.2 - ca) by omega]
          exact this
      · exact ih g2
    · exact ih hg
