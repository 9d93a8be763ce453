theorem TYP_up {E : XE} {xt : XX} {t : Nat → ClassId} {lo : Nat} {f : Nat → va_E} {i κ : Nat} {κ' : XK} {e : va_E} (h : TYP E xt t lo f) (hi : E.2.1[i]? = some κ) (hk : E.1[κ]? = some κ') (he : cok (xB E lo xt) t κ' e) : TYP E xt t lo (va_up f (lo + i) e) := by
  intro j k hj
  by_cases c : j = i
  · subst c
    rw [hi] at hj
    cases hj
    rw [va_up_self]
    exact ⟨κ', hk, he⟩
  · rw [va_up_ne f e (show lo + j ≠ lo + i by omega)]
    exact h j k hj
theorem FZ_up {E : XE} {xt : XX} {lo : Nat} {f0 f : Nat → va_E} {i κ : Nat} {e : va_E} {ps : List (Nat × Nat)} (hw : TWX E xt lo) (h : FZ E xt lo f0 f) (hi : E.2.1[i]? = some κ) (hk : xwr E κ = some ps) (hp : ∀ k, (∃ q ∈ ps, q.1 ≤ k ∧ k < q.2) → cellv e k = cellv (f (lo + i)) k) : FZ E xt lo f0 (va_up f (lo + i) e) := by
  have fr : ∀ (j k : Nat), E.2.1[j]? = some k → xwr E k = none → va_up f (lo + i) e (lo + j) = f (lo + j) := by
    intro j k hj hc
    by_cases c : j = i
    · subst c
      rw [hi] at hj
      cases hj
      rw [hk] at hc
      cases hc
    · rw [va_up_ne f e (show lo + j ≠ lo + i by omega)]
  refine ⟨fun j k hj hc => (fr j k hj hc).trans (h.1 j k hj hc), hw.2.1 f _ (fun j κ' k ps' a b c => ?_) fr h.2⟩
  by_cases cj : j = i
  · subst cj
    rw [hi] at a
    cases a
    rw [hk] at b
    cases b
    rw [va_up_self]
    exact hp k c
  · rw [va_up_ne f e (show lo + j ≠ lo + i by omega)]
theorem xwk_ok {E : XE} {κ k : Nat} (h : xwk E κ k = true) : ∃ ps, xwr E κ = some ps ∧ ∀ k', (∃ q ∈ ps, q.1 ≤ k' ∧ k' < q.2) → k ≠ k' := by
  unfold xwk at h
  cases hx : xwr E κ with
  | none => rw [hx] at h; cases h
  | some ps =>
    rw [hx] at h
    refine ⟨ps, rfl, fun k' ⟨q, hq, h1, h2⟩ e => ?_⟩
    have := List.all_eq_true.mp h q hq
    simp only [Bool.or_eq_true, decide_eq_true_eq] at this
    omega
theorem xwp_ok {E : XE} {gi : List XI} {κ : Nat} {n : XN} {Gs : List Int} {z : Int} {p : Nat} (h : xwp E gi κ n = true) (hg : gok Gs gi) (hv : xval Gs n = some z) (hp : (p : Int) = z) : ∃ ps, xwr E κ = some ps ∧ ∀ k', (∃ q ∈ ps, q.1 ≤ k' ∧ k' < q.2) → k' ≠ p := by
  unfold xwp at h
  cases hx : xwr E κ with
  | none => rw [hx] at h; cases h
  | some ps =>
    rw [hx] at h
    cases hi : xiv gi n with
    | none => rw [hi] at h; cases h
    | some ab =>
      obtain ⟨a, b⟩ := ab
      rw [hi] at h
      have q1 := xiv_ok hg hi hv
      refine ⟨ps, rfl, fun k' ⟨q, hq, h1, h2⟩ e => ?_⟩
      have := List.all_eq_true.mp h q hq
      simp only [Bool.or_eq_true, decide_eq_true_eq] at this
      omega
theorem xgd_ok {E : XE} {xt : XX} {lo : Nat} {Gs : List Int} {gi : List XI} {V : List XV} {f : Nat → va_E} {κ : Nat} {n : XN} {i : Nat} {v : Value} {p : Nat} {z : Int} (hg : gok Gs gi) (hV : VOK E xt lo Gs V f) (hP : xt.2 lo f) (hB : GB1 E xt lo) (hi : E.2.1[i]? = some κ) (hn : xval Gs n = some z) (hz : (p : Int) = z) (hv : cellv (f (lo + i)) p = some v) : ∀ {gb : List (Nat × Nat × Nat × Int × Int × Int)} {a b : Int}, (∀ q ∈ gb, q ∈ E.2.2.1.2) → xgd E gi V κ n gb = some (a, b) → a ≤ gv v ∧ gv v ≤ b
  | [], a, b, _, h => by simp [xgd] at h
  | (κ', p', j, q, a', b') :: r, a, b, hs, h => by
    have ih := xgd_ok hg hV hP hB hi hn hz hv (gb := r) (a := a) (b := b) (fun q hq => hs q (List.mem_cons_of_mem _ hq))
    simp only [xgd] at h
    by_cases c : κ' = κ ∧ n = (none, (p' : Int))
    · rw [if_pos c] at h
      split at h
      · rename_i w ok e1 e2
        split at h
        · rename_i l u hx
          by_cases cq : q < l
          · rw [if_pos cq] at h
            cases h
            obtain ⟨o, k⟩ := ok
            obtain ⟨v', a1, ⟨w', rfl, a3⟩⟩ := hV j o k _ e2 e1
            have hw := xiv_ok hg hx a3
            obtain ⟨c1, c2⟩ := c
            subst c1
            subst c2
            simp only [xval, Option.some.injEq] at hn
            have ep : p = p' := by omega
            subst ep
            exact hB f hP κ' p j q _ _ (hs _ List.mem_cons_self) i o k w' v hi e2 a1 (by omega) hv
          · rw [if_neg cq] at h
            exact ih h
        · exact ih h
      · exact ih h
    · rw [if_neg c] at h
      exact ih h
theorem VOK_up0 {E : XE} {xt : XX} {lo : Nat} {Gs : List Int} {V : List XV} {f : Nat → va_E} {i κ ci k : Nat} {ts : List XT} {T : XT} {fs : List Value} {v : Value} (hw : TW E) (h : VOK E xt lo Gs V f) (hi : E.2.1[i]? = some κ) (hk : E.1[κ]? = some (.inl (ci, ts))) (hT : ts[k]? = some T) (hn : ∀ j, T ≠ .inr (.inr j)) (hf : f (lo + i) = .inr (ci, fs)) : VOK E xt lo Gs V (va_up f (lo + i) (.inr (ci, fs.set k v))) := by
  intro j o q x h1 h2
  obtain ⟨v', a1, a3⟩ := h j o q x h1 h2
  by_cases c : o = i
  · subst c
    rw [va_up_self]
    rw [hf] at a1
    simp only [cellv] at a1 ⊢
    by_cases ck : k = q
    · subst ck
      obtain ⟨κ2, b1, b2⟩ := hw.2.2 j o k h1
      rw [hi] at b1
      cases b1
      rcases b2 with ⟨ci2, ts2, b2, b3⟩ | ⟨tt, z, l, u, tk, bl, b2, _⟩
      · rw [hk] at b2
        cases b2
        rw [hT] at b3
        exact absurd (Option.some.inj b3) (hn j)
      · rw [hk] at b2; cases b2
    · exact ⟨v', by rw [List.getElem?_set, if_neg ck]; exact a1, a3⟩
  · rw [va_up_ne _ _ (show lo + o ≠ lo + i by omega)]
    exact ⟨v', a1, a3⟩
theorem VOK_up1 {E : XE} {xt : XX} {lo : Nat} {Gs : List Int} {V : List XV} {f : Nat → va_E} {i κ ci k j0 : Nat} {ts : List XT} {fs : List Value} {v : Value} {y : XV} (hw : TW E) (h : VOK E xt lo Gs V f) (hi : E.2.1[i]? = some κ) (hk : E.1[κ]? = some (.inl (ci, ts))) (hT : ts[k]? = some (.inr (.inr j0))) (hf : f (lo + i) = .inr (ci, fs)) (hl : k < fs.length) (hy : xok (xB E lo xt) Gs y v) : VOK E xt lo Gs (V.set j0 y) (va_up f (lo + i) (.inr (ci, fs.set k v))) := by
  intro j o q x h1 h2
  have t0 := hw.1 i κ ci ts k j0 hi hk hT
  by_cases cj : j0 = j
  · subst cj
    rw [t0] at h1
    cases h1
    rw [va_up_self]
    rw [List.getElem?_set, if_pos rfl] at h2
    by_cases cl : j0 < V.length
    · rw [if_pos cl] at h2
      cases h2
      exact ⟨v, by simp only [cellv]; rw [List.getElem?_set, if_pos rfl, if_pos hl], hy⟩
    · rw [if_neg cl] at h2; cases h2
  · rw [List.getElem?_set, if_neg cj] at h2
    obtain ⟨v', a1, a3⟩ := h j o q x h1 h2
    by_cases c : o = i
    · subst c
      rw [va_up_self]
      rw [hf] at a1
      simp only [cellv] at a1 ⊢
      by_cases ck : k = q
      · subst ck
        obtain ⟨κ2, b1, b2⟩ := hw.2.2 j o k h1
        rw [hi] at b1
        cases b1
        rcases b2 with ⟨ci2, ts2, b2, b3⟩ | ⟨tt, z, l, u, tk, bl, b2, _⟩
        · rw [hk] at b2
          cases b2
          rw [hT] at b3
          cases b3
          exact absurd rfl cj
        · rw [hk] at b2; cases b2
      · exact ⟨v', by rw [List.getElem?_set, if_neg ck]; exact a1, a3⟩
    · rw [va_up_ne _ _ (show lo + o ≠ lo + i by omega)]
      exact ⟨v', a1, a3⟩
/-- a row of which V tells nothing -/
theorem VOK_up2 {E : XE} {xt : XX} {lo : Nat} {Gs : List Int} {V : List XV} {f : Nat → va_E} {i κ : Nat} {r : Nat × Nat × ((Int × Int × List (Nat × Nat) × List (Int × Int)) ⊕ List Nat)} {e : va_E} (hw : TW E) (h : VOK E xt lo Gs V f) (hi : E.2.1[i]? = some κ) (hk : E.1[κ]? = some (.inr r)) (hr : ∀ lo hi tk bl, r.2.2 = .inl (lo, hi, tk, bl) → tk = [] ∨ r.1 = 1) : VOK E xt lo Gs V (va_up f (lo + i) e) := by
  intro j o q x h1 h2
  obtain ⟨v', a1, a3⟩ := h j o q x h1 h2
  by_cases c : o = i
  · subst c
    obtain ⟨κ2, b1, b2⟩ := hw.2.2 j o q h1
    rw [hi] at b1
    cases b1
    rcases b2 with ⟨ci2, ts2, b2, b3⟩ | ⟨tt, z, l, u, tk, bl, b2, b3, b4, b5⟩
    · rw [hk] at b2; cases b2
    · rw [hk] at b2
      cases b2
      rcases hr l u tk bl rfl with e | e
      · subst e; cases b3
      · exact absurd e b5
  · rw [va_up_ne _ _ (show lo + o ≠ lo + i by omega)]
    exact ⟨v', a1, a3⟩
/-- a store into a row: V behind it must tell each element that it tells -/
theorem VOK_upA {E : XE} {xt : XX} {lo : Nat} {Gs : List Int} {V V' : List XV} {f : Nat → va_E} {i κ tt z p : Nat} {l u : Int} {tk : List (Nat × Nat)} {bl : List (Int × Int)} {cA : ClassId} {g : Nat → Int32} {y : Int32} (hw : TW E) (h : VOK E xt lo Gs V f) (hi : E.2.1[i]? = some κ) (hk : E.1[κ]? = some (.inr (tt, z, .inl (l, u, tk, bl))))
    (hV : ∀ (j : Nat) (x : XV), V'[j]? = some x → V[j]? = some x ∧ (∀ k, klk tk k = some j → k ≠ p) ∨ ∃ k, E.2.2.2[j]? = some (i, k) ∧ k < z ∧ xok (xB E lo xt) Gs x (.int (upd g p y k))) (hf : f (lo + i) = .inl (cA, z, .inl g)) : VOK E xt lo Gs V' (va_up f (lo + i) (.inl (cA, z, .inl (upd g p y)))) := by
  intro j o q x h1 h2
  rcases hV j x h2 with ⟨h3, h4⟩ | ⟨k, h3, h4, h5⟩
  · obtain ⟨v', a1, a3⟩ := h j o q x h1 h3
    by_cases c : o = i
    · subst c
      rw [va_up_self]
      rw [hf] at a1
      obtain ⟨κ2, b1, b2⟩ := hw.2.2 j o q h1
      rw [hi] at b1
      cases b1
      rcases b2 with ⟨ci2, ts2, b2, b3⟩ | ⟨tt', z', l', u', tk', bl', b2, b3, b4, b5⟩
      · rw [hk] at b2; cases b2
      · rw [hk] at b2
        cases b2
        simp only [cellv] at a1 ⊢
        rw [if_pos b4] at a1 ⊢
        cases a1
        exact ⟨_, by rw [pk_un (h4 q b3)], a3⟩
    · rw [va_up_ne _ _ (show lo + o ≠ lo + i by omega)]
      exact ⟨v', a1, a3⟩
  · rw [h3] at h1
    cases h1
    rw [va_up_self]
    exact ⟨_, by simp only [cellv]; rw [if_pos h4], h5⟩
/-- what may have been touched is told by bounds -/
theorem xforg_ok {a b l u : Int} {val : Nat → Int} : ∀ {tk : List (Nat × Nat)} {gi : List XI} {V : List XV} {Gs : List Int}, gok Gs gi → (∀ q ∈ tk, l ≤ val q.2 ∧ val q.2 ≤ u) → ∃ t, gok (Gs ++ t) (xforg a b l u tk gi V).1 ∧ ∀ (j : Nat) (x : XV), (xforg a b l u tk gi V).2[j]? = some x → (V[j]? = some x ∧ ∀ q ∈ tk, q.2 = j → ¬ (a ≤ (q.1 : Int) ∧ (q.1 : Int) ≤ b)) ∨ ∃ q ∈ tk, q.2 = j ∧ ∃ n, x = .inl (.inl n) ∧ xval (Gs ++ t) n = some (val j)
  | [], gi, V, Gs, hg, _ => ⟨[], by simpa [xforg] using hg, fun j x h => Or.inl ⟨h, fun q hq => absurd hq List.not_mem_nil⟩⟩
  | (k, j0) :: tk, gi, V, Gs, hg, hv => by
    simp only [xforg]
    by_cases c : a ≤ (k : Int) ∧ (k : Int) ≤ b
    · rw [if_pos c]
      obtain ⟨t, t1, t2⟩ := xmk_ok0 (z := val j0) hg (hv _ List.mem_cons_self).1 (hv _ List.mem_cons_self).2
      obtain ⟨t', t3, t4⟩ := xforg_ok (tk := tk) (V := V.set j0 (.inl (.inl (xmk gi l u none).2))) t1 (fun q hq => hv q (List.mem_cons_of_mem _ hq))
      refine ⟨t ++ t', by rw [← List.append_assoc]; exact t3, fun j x hx => ?_⟩
      rw [← List.append_assoc]
      rcases t4 j x hx with ⟨e1, e2⟩ | ⟨q, q1, q2, q3⟩
      · by_cases cj : j0 = j
        · subst cj
          rw [List.getElem?_set, if_pos rfl] at e1
          by_cases cl : j0 < V.length
          · rw [if_pos cl] at e1
            cases e1
            exact Or.inr ⟨(k, j0), List.mem_cons_self, rfl, _, rfl, xval_mono t2⟩
          · rw [if_neg cl] at e1; cases e1
        · rw [List.getElem?_set, if_neg cj] at e1
          refine Or.inl ⟨e1, fun q hq hj => ?_⟩
          rcases List.mem_cons.mp hq with e | e
          · subst e; exact absurd hj cj
          · exact e2 q e hj
      · exact Or.inr ⟨q, List.mem_cons_of_mem _ q1, q2, q3⟩
    · rw [if_neg c]
      obtain ⟨t', t3, t4⟩ := xforg_ok (tk := tk) (V := V) hg (fun q hq => hv q (List.mem_cons_of_mem _ hq))
      refine ⟨t', t3, fun j x hx => ?_⟩
      rcases t4 j x hx with ⟨e1, e2⟩ | ⟨q, q1, q2, q3⟩
      · refine Or.inl ⟨e1, fun q hq hj => ?_⟩
        rcases List.mem_cons.mp hq with e | e
        · subst e; exact c
        · exact e2 q e hj
      · exact Or.inr ⟨q, List.mem_cons_of_mem _ q1, q2, q3⟩
theorem px_zast2 {p : Program} {l : Launch} {e : Env} {R : Room} {s : State} {m : MethodId} {args : Array Value} {below : List Frame} {meth : Method} {c : Code} {H : Heap} {locs : List Loc} {cells slots : Nat} {Q : State → Prop} {cc : ByteArray} {own : String} {nl : Nat} {ret : Option FieldType} {pc : Nat} {ls : Array Slot} {rest : List Value} {D : va_G} {t : Nat → ClassId} {lo n : Nat} {f : Nat → va_E} {A : Nat → Prop} {a : Nat} (X : CX p s m args meth c own cc nl ret) (h : HX D t lo n f A s H locs) {z : Nat} {g : Nat → Int32} (ha : px_at lo n f a (.inl (t 3, z, .inl g))) {i x : Int32} (hin : vp_in i z) (hdg : decode cc pc = .ok (.bastore, 1))
    (kk : ∀ (H1 : Heap) (locs1 : List Loc), HX D t lo n (va_up f a (.inl (t 3, z, .inl (upd g i.toNatClampNeg (vp_nar .boolean x))))) A s H1 locs1 → W p l e R s m args below meth c H1 locs1 cells slots Q (F0 m (pc + 1) ls rest)) : W p l e R s m args below meth c H locs cells slots Q (F0 m pc ls (.int x :: .int i :: .ref a :: rest)) :=
  va_zast (D := D) (cl := vwCl) (ws := px_W lo n f) X.1 X.2.1 h.1 h.2.1 (px_D h.2.2.1.1) h.2.2.2 (a - lo) 3 (by rw [px_get ha.1, ha.2]) rfl hin hdg
    (fun H1 locs1 hP _ hS => kk H1 locs1 ⟨h.1, by rw [px_set ha.1] at hP; exact hP, h.2.2.1, hS⟩)
theorem upd_b {g : Nat → Int32} {k z : Nat} {x : Int32} {lo hi : Int} (h : ∀ i, i < z → lo ≤ (g i).toInt ∧ (g i).toInt ≤ hi) (hx : lo ≤ x.toInt ∧ x.toInt ≤ hi) : ∀ i, i < z → lo ≤ (upd g k x i).toInt ∧ (upd g k x i).toInt ≤ hi := by
  intro i hi'
  by_cases c : i = k
  · subst c; rw [pk_us]; exact hx
  · rw [pk_un c]; exact h i hi'
theorem updL_b {g : Nat → Int64} {k z : Nat} {x : Int64} {lo hi : Int} (h : ∀ i, i < z → lo ≤ (g i).toInt ∧ (g i).toInt ≤ hi) (hx : lo ≤ x.toInt ∧ x.toInt ≤ hi) : ∀ i, i < z → lo ≤ (vp_updL g k x i).toInt ∧ (vp_updL g k x i).toInt ≤ hi := by
  intro i hi'
  by_cases c : i = k
  · subst c; rw [pk_uLs]; exact hx
  · rw [pk_uLn c]; exact h i hi'
theorem xin_num {Gs : List Int} {gi : List XI} {lo hi : Int} {n : XN} {v : Int32} (h : xin gi (.inl (.inl (lo, hi))) 0 (.inl (.inl n)) = true) (hg : gok Gs gi) (hv : xval Gs n = some v.toInt) : lo ≤ v.toInt ∧ v.toInt ≤ hi := by
  simp only [xin] at h
  cases hx : xiv gi n with
  | none => rw [hx] at h; cases h
  | some q =>
    obtain ⟨a, c⟩ := q
    rw [hx] at h
    simp only [Bool.and_eq_true, decide_eq_true_eq] at h
    have q := xiv_ok hg hx hv
    omega
theorem xin_numL {Gs : List Int} {gi : List XI} {lo hi : Int} {n : XN} {v : Int64} (h : xin gi (.inl (.inr (lo, hi))) 2 (.inl (.inr n)) = true) (hg : gok Gs gi) (hv : xval Gs n = some v.toInt) : lo ≤ v.toInt ∧ v.toInt ≤ hi := by
  simp only [xin] at h
  cases hx : xiv gi n with
  | none => rw [hx] at h; cases h
  | some q =>
    obtain ⟨a, c⟩ := q
    rw [hx] at h
    simp only [Bool.and_eq_true, decide_eq_true_eq] at h
    have q := xiv_ok hg hx hv
    omega
section XD
variable {E : XE} {xt : XX} {D : va_G} {t : Nat → ClassId} {lo : Nat} {G0 : List Int} {f0 : Nat → va_E} {A : Nat → Prop}
variable {p : Program} {l : Launch} {e : Env} {R : Room} {s : State} {m : MethodId} {args : Array Value} {below : List Frame} {meth : Method} {c : Code} {H : Heap} {locs : List Loc} {cells slots : Nat} {Q : State → Prop}
variable {cc : ByteArray} {own : String} {nl : Nat} {ret : Option FieldType} {ls : Array Slot} {st : List Value} {x : XC} {xs : List XC} {ins : Instr} {pc : Nat} {fl : XF}
theorem xB_lt {i k : Nat} (h : E.2.1[i]? = some k) : i < E.2.1.length := (List.getElem?_eq_some_iff.mp h).1
theorem get_ok (hF : FLok own fl) (X : CX p s m args meth c own cc nl ret) {i : Nat} (hd : decode cc x.1 = .ok (.getfield i, 3)) (h : stepD E fl (.getfield i) x = some xs) (hs : SAT E xt D t lo G0 f0 A s nl x H locs ls st)
    (kk : ∀ y ∈ xs, GO E xt D t lo G0 f0 A nl p l e R s m args below meth c cells slots Q y) (hw : TWX E xt lo) : W p l e R s m args below meth c H locs cells slots Q (F0 m x.1 ls st) := by
  obtain ⟨pc, gi, L, S, V⟩ := x
  match S, hs, h with
  | .inr (.inl κ) :: S, hs, h =>
    simp only [stepD] at h
    cases h1 : xfl fl i with
    | none => rw [h1] at h; cases h
    | some r =>
      obtain ⟨ci, k, b⟩ := r
      rw [h1] at h
      cases h2 : E.1[κ]? with
      | none => rw [h2] at h; cases h
      | some κ' =>
        rw [h2] at h
        match κ', h2, h with
        | .inr _, h2, h => cases h
        | .inl (ci', ts), h2, h =>
          simp only at h
          by_cases c1 : ci = ci'
          · rw [if_pos c1] at h
            subst c1
            cases h3 : ts[k]? with
            | none => rw [h3] at h; cases h
            | some T =>
              rw [h3] at h
              simp only at h
              cases h4 : xty gi V T with
              | none => rw [h4] at h; cases h
              | some r4 =>
                obtain ⟨gi', v⟩ := r4
                rw [h4] at h
                simp only [Option.some.injEq] at h
                subst h
                obtain ⟨C, TT, N, ty0, u1, u2, u3, u4, u5, u6, u7⟩ := hF i ci k b h1
                obtain ⟨Gs, f, lv, ⟨r0, hr0⟩, hg, hl, hL, hS, hV, hT, hZ, hH⟩ := hs
                obtain ⟨v1, st1, rfl, ⟨a, rfl, hB⟩, hS1⟩ := SR_cons hS
                obtain ⟨o, rfl, ho⟩ := xB_in hB h2
                obtain ⟨κ2, k1, k2⟩ := hT o κ ho
                rw [h2] at k1
                cases k1
                obtain ⟨fs, e1, e2, e3⟩ := k2
                obtain ⟨w, w1, w2⟩ := e3 k T h3
                have hat : px_at lo E.2.1.length f (lo + o) (.inr (ci, fs)) := ⟨⟨by omega, by have := xB_lt ho; omega⟩, e1⟩
                have row := fun kx => px_getf (l := l) (e := e) (R := R) (below := below) (cells := cells) (slots := slots) (Q := Q) (ls := ls) (rest := st1) X hH hat u1 u2 k u5 u6 rfl w1 hd kx
                match T, h3, h4, w2 with
                | .inl (.inl (a, b)), h3, h4, ⟨z, hz, z1, z2⟩ =>
                  subst hz
                  simp only [xty, Option.some.injEq, Prod.mk.injEq] at h4
                  obtain ⟨rfl, rfl⟩ := h4
                  obtain ⟨tt, g1, g2⟩ := xmk_ok0 hg z1 z2
                  exact row (kk _ List.mem_cons_self _ _ _ _ ⟨Gs ++ tt, f, lv, ⟨r0 ++ tt, by rw [hr0, List.append_assoc]⟩, g1, hl, LR_mono hL, ⟨⟨_, rfl, g2⟩, SR_mono hS1⟩, VOK_mono hV, hT, hZ, hH⟩)
                | .inl (.inr (a, b)), h3, h4, ⟨z, hz, z1, z2⟩ =>
                  subst hz
                  simp only [xty, Option.some.injEq, Prod.mk.injEq] at h4
                  obtain ⟨rfl, rfl⟩ := h4
                  obtain ⟨tt, g1, g2⟩ := xmk_ok0 hg z1 z2
                  exact row (kk _ List.mem_cons_self _ _ _ _ ⟨Gs ++ tt, f, lv, ⟨r0 ++ tt, by rw [hr0, List.append_assoc]⟩, g1, hl, LR_mono hL, ⟨⟨_, rfl, g2⟩, SR_mono hS1⟩, VOK_mono hV, hT, hZ, hH⟩)
                | .inr (.inl k'), h3, h4, hz =>
                  simp only [xty, Option.some.injEq, Prod.mk.injEq] at h4
                  obtain ⟨rfl, rfl⟩ := h4
                  exact row (kk _ List.mem_cons_self _ _ _ _ ⟨Gs, f, lv, ⟨r0, hr0⟩, hg, hl, hL, ⟨hz, hS1⟩, hV, hT, hZ, hH⟩)
                | .inr (.inr j), h3, h4, hz =>
                  simp only [xty] at h4
                  cases h5 : V[j]? with
                  | none => rw [h5] at h4; cases h4
                  | some y =>
                    rw [h5] at h4
                    simp only [Option.some.injEq, Prod.mk.injEq] at h4
                    obtain ⟨rfl, rfl⟩ := h4
                    obtain ⟨v5, q1, q3⟩ := hV j o k y (hw.1.1 o κ ci ts k j ho h2 h3) h5
                    rw [e1] at q1
                    simp only [cellv] at q1
                    rw [w1] at q1
                    cases q1
                    exact row (kk _ List.mem_cons_self _ _ _ _ ⟨Gs, f, lv, ⟨r0, hr0⟩, hg, hl, hL, ⟨q3, hS1⟩, hV, hT, hZ, hH⟩)
          · rw [if_neg c1] at h; cases h
theorem put_ok (hF : FLok own fl) (X : CX p s m args meth c own cc nl ret) {i : Nat} (hd : decode cc x.1 = .ok (.putfield i, 3)) (h : stepD E fl (.putfield i) x = some xs) (hs : SAT E xt D t lo G0 f0 A s nl x H locs ls st)
    (kk : ∀ y ∈ xs, GO E xt D t lo G0 f0 A nl p l e R s m args below meth c cells slots Q y) (hw : TWX E xt lo) : W p l e R s m args below meth c H locs cells slots Q (F0 m x.1 ls st) := by
  obtain ⟨pc, gi, L, S, V⟩ := x
  match S, hs, h with
  | v :: .inr (.inl κ) :: S, hs, h =>
    simp only [stepD] at h
    cases h1 : xfl fl i with
    | none => rw [h1] at h; cases h
    | some r =>
      obtain ⟨ci, k, b⟩ := r
      rw [h1] at h
      cases h2 : E.1[κ]? with
      | none => rw [h2] at h; cases h
      | some κ' =>
        rw [h2] at h
        match κ', h2, h with
        | .inr _, h2, h => cases h
        | .inl (ci', ts), h2, h =>
          simp only at h
          by_cases c1 : ci = ci' ∧ xwk E κ k = true
          · rw [if_pos c1] at h
            obtain ⟨c1, c2⟩ := c1
            subst c1
            cases h3 : ts[k]? with
            | none => rw [h3] at h; cases h
            | some T =>
              rw [h3] at h
              simp only at h
              by_cases c3 : xin gi T b v = true
              · rw [if_pos c3] at h
                obtain ⟨C, TT, N, ty0, u1, u2, u3, u4, u5, u6, u7⟩ := hF i ci k b h1
                obtain ⟨Gs, f, lv, hr0, hg, hl, hL, hS, hV, hT, hZ, hH⟩ := hs
                obtain ⟨v1, st1, rfl, hv1, hS1⟩ := SR_cons hS
                obtain ⟨v2, st2, rfl, ⟨a, rfl, hB⟩, hS2⟩ := SR_cons hS1
                obtain ⟨o, rfl, ho⟩ := xB_in hB h2
                obtain ⟨κ2, k1, k2⟩ := hT o κ ho
                rw [h2] at k1
                cases k1
                obtain ⟨fs, e1, e2, e3⟩ := k2
                obtain ⟨w, w1, w2⟩ := e3 k T h3
                have hkl : k < fs.length := (List.getElem?_eq_some_iff.mp w1).1
                have hat : px_at lo E.2.1.length f (lo + o) (.inr (ci, fs)) := ⟨⟨by omega, by have := xB_lt ho; omega⟩, e1⟩
                obtain ⟨n1, n2, n3, n4⟩ := xin_ok c3 hg hv1 u7
                have hT2 : TYP E xt t lo (va_up f (lo + o) (.inr (ci, fs.set k v1))) := TYP_up hT ho h2 ⟨_, rfl, by rw [List.length_set]; exact e2, fun k' T' hk' => by
                  by_cases ck : k = k'
                  · subst ck
                    rw [h3] at hk'
                    cases hk'
                    exact ⟨v1, by rw [List.getElem?_set, if_pos rfl, if_pos hkl], n1⟩
                  · rw [List.getElem?_set, if_neg ck]
                    exact e3 k' T' hk'⟩
                obtain ⟨ps, d1, d2⟩ := xwk_ok c2
                have hcv : ∀ v k', (∃ q ∈ ps, q.1 ≤ k' ∧ k' < q.2) → cellv (.inr (ci, fs.set k v)) k' = cellv (f (lo + o)) k' := fun v k' hk' => by
                  rw [e1]
                  simp only [cellv]
                  rw [List.getElem?_set, if_neg (d2 k' hk')]
                refine px_putf X hH hat u1 u2 u3 u4 k u5 u6 rfl n4 n2 n3 hkl hd (fun H1 locs1 hH1 => ?_)
                match T, h3, h with
                | .inl T', h3, h =>
                  simp only [Option.some.injEq] at h
                  subst h
                  exact kk _ List.mem_cons_self _ _ _ _ ⟨Gs, _, lv, hr0, hg, hl, hL, hS2, VOK_up0 hw.1 hV ho h2 h3 (fun j q => by cases q) e1, hT2, FZ_up hw hZ ho d1 (hcv v1), hH1⟩
                | .inr (.inl k'), h3, h =>
                  simp only [Option.some.injEq] at h
                  subst h
                  exact kk _ List.mem_cons_self _ _ _ _ ⟨Gs, _, lv, hr0, hg, hl, hL, hS2, VOK_up0 hw.1 hV ho h2 h3 (fun j q => by cases q) e1, hT2, FZ_up hw hZ ho d1 (hcv v1), hH1⟩
                | .inr (.inr j), h3, h =>
                  simp only [Option.some.injEq] at h
                  subst h
                  exact kk _ List.mem_cons_self _ _ _ _ ⟨Gs, _, lv, hr0, hg, hl, hL, hS2, VOK_up1 hw.1 hV ho h2 h3 e1 hkl hv1, hT2, FZ_up hw hZ ho d1 (hcv v1), hH1⟩
              · rw [if_neg c3] at h; cases h
          · rw [if_neg c1] at h; cases h
end XD
