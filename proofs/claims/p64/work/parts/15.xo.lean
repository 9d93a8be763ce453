theorem vals_of {E : XE} {xt : XX} {lo : Nat} {Gs : List Int} {f : Nat → va_E} {F : Nat → Value → Prop} : ∀ (V : List XV) (i : Nat), (∀ (j : Nat) (x : XV), V[j]? = some x → ∃ v, F (i + j) v ∧ xok (xB E lo xt) Gs x v) → ∃ vv, SR (xB E lo xt) Gs V vv ∧ ∀ (j : Nat) (v : Value), vv[j]? = some v → F (i + j) v
  | [], i, _ => ⟨[], trivial, fun j v h => by simp at h⟩
  | x :: V, i, h => by
    obtain ⟨v, h1, h2⟩ := h 0 x rfl
    obtain ⟨vv, h3, h4⟩ := vals_of (f := f) (F := F) V (i + 1) (fun j y hj => by
      obtain ⟨w, a, b⟩ := h (j + 1) y (by simpa using hj)
      exact ⟨w, by rw [show i + 1 + j = i + (j + 1) by omega]; exact a, b⟩)
    refine ⟨v :: vv, ⟨h2, h3⟩, fun j w hj => ?_⟩
    match j, hj with
    | 0, hj =>
      simp only [List.getElem?_cons_zero, Option.some.injEq] at hj
      subst hj
      exact h1
    | j + 1, hj =>
      have := h4 j w (by simpa using hj)
      rw [show i + 1 + j = i + (j + 1) by omega] at this
      exact this
theorem VOK_vals {E : XE} {xt : XX} {lo : Nat} {Gs : List Int} {f : Nat → va_E} {V : List XV} (h : VOK E xt lo Gs V f) (hl : V.length = E.2.2.2.length) : ∃ vv, SR (xB E lo xt) Gs V vv ∧ TRV E lo f vv := by
  obtain ⟨vv, h1, h2⟩ := vals_of (E := E) (lo := lo) (Gs := Gs) (f := f) (F := fun j v => ∃ (o k : Nat), E.2.2.2[j]? = some (o, k) ∧ cellv (f (lo + o)) k = some v) V 0 (fun j x hj => by
    have hlt : j < E.2.2.2.length := by rw [← hl]; exact (List.getElem?_eq_some_iff.mp hj).1
    obtain ⟨v, a, c⟩ := h j _ _ x (List.getElem?_eq_getElem hlt) hj
    exact ⟨v, ⟨_, _, by rw [Nat.zero_add]; exact List.getElem?_eq_getElem hlt, a⟩, c⟩)
  refine ⟨vv, h1, fun j o k v a b => ?_⟩
  obtain ⟨o', k', c1, c2⟩ := h2 j v b
  rw [Nat.zero_add, a] at c1
  cases c1
  exact c2
theorem xcases_in {pc : Nat} {cur : List XV} {gi : List XI} {L : List (Nat × XV)} {S : List XV} : ∀ {os : List XO} {ys : List XC} {o : XO}, xcases pc cur gi L S os = some ys → o ∈ os → ∃ zs, xcase pc cur gi L S o = some zs ∧ ∀ z ∈ zs, z ∈ ys
  | o' :: os, ys, o, h, ho => by
    simp only [xcases] at h
    cases h1 : xcase pc cur gi L S o' with
    | none => rw [h1] at h; cases h
    | some a =>
      cases h2 : xcases pc cur gi L S os with
      | none => rw [h1, h2] at h; cases h
      | some b =>
        rw [h1, h2] at h
        simp only [Option.some.injEq] at h
        rcases List.mem_cons.mp ho with q | q
        · subst q
          exact ⟨a, h1, fun z hz => by rw [← h]; exact List.mem_append_left _ hz⟩
        · obtain ⟨zs, e1, e2⟩ := xcases_in h2 q
          exact ⟨zs, e1, fun z hz => by rw [← h]; exact List.mem_append_right _ (e2 z hz)⟩
theorem xfind_in {gi : List XI} {cur : List XV} {no : Nat} : ∀ {ce : List (Nat × XM)} {M : XM}, xfind gi cur no ce = some M → (no, M) ∈ ce ∧ xfitl gi (M.1 ++ M.2.1) cur = true ∧ xrch gi (cur.map xnum) M.2.2.2 = true
  | (no', M') :: r, M, h => by
    simp only [xfind] at h
    by_cases c : (no' == no && xfitl gi (M'.1 ++ M'.2.1) cur && xrch gi (cur.map xnum) M'.2.2.2) = true
    · rw [if_pos c] at h
      cases h
      simp only [Bool.and_eq_true, beq_iff_eq] at c
      obtain ⟨⟨rfl, c2⟩, c3⟩ := c
      exact ⟨List.mem_cons_self, c2, c3⟩
    · rw [if_neg c] at h
      obtain ⟨a, b⟩ := xfind_in h
      exact ⟨List.mem_cons_of_mem _ a, b⟩
theorem FZ_tr {E : XE} {xt : XX} {lo : Nat} {f0 f f' : Nat → va_E} (h : FZ E xt lo f0 f) (h2 : FZ E xt lo f f') : FZ E xt lo f0 f' := ⟨fun i k a b => (h2.1 i k a b).trans (h.1 i k a b), h2.2⟩
theorem VOK_of {E : XE} {xt : XX} {lo : Nat} {Gs : List Int} {V : List XV} {vv : List Value} {f : Nat → va_E} (h : SR (xB E lo xt) Gs V vv) (ht : TRV E lo f vv) : VOK E xt lo Gs V f := fun j o k x h1 h2 => by
  obtain ⟨v, a, b⟩ := SR_at h h2
  exact ⟨v, ht j o k v h1 a, b⟩
section XO
variable {E : XE} {xt : XX} {D : va_G} {t : Nat → ClassId} {lo : Nat} {G0 : List Int} {f0 : Nat → va_E} {A : Nat → Prop}
variable {p : Program} {l : Launch} {e : Env} {R : Room} {s : State} {m : MethodId} {args : Array Value} {below : List Frame} {meth : Method} {c : Code} {H : Heap} {locs : List Loc} {cells slots : Nat} {Q : State → Prop}
variable {cc : ByteArray} {own : String} {nl : Nat} {ret : Option FieldType} {ls : Array Slot} {st : List Value} {x : XC} {xs : List XC} {ins : Instr} {pc : Nat} {fl : XF}
theorem x_back {n : Nat} {f : Nat → va_E} {rest st0 : List Value} (h : HX D t lo n f A s H locs) {Qa : State → Outcome → State → Prop} {Z : Option Value → (Nat → va_E) → Prop}
    (hr : va_Run p l e R s m args below meth c H locs cells slots 0 0 (F0 m pc ls st0) rest Qa (px_A lo n))
    (hq : ∀ (st : State) (oc : Outcome) (tt : State), Qa st oc tt → ∃ (ov : Option Value) (f2 : Nat → va_E), oc = .returned ov ∧ Z ov f2 ∧ va_P D vwCl (px_W lo n f2) tt.heap ∧ va_F (px_A lo n) st tt)
    (kk : ∀ (ov : Option Value) (f2 : Nat → va_E), Z ov f2 → ∀ (H1 : Heap) (locs1 : List Loc), HX D t lo n f2 A s H1 locs1 → W p l e R s m args below meth c H1 locs1 cells slots Q (F0 m (pc + 3) ls (ov.toList ++ rest))) : W p l e R s m args below meth c H locs cells slots Q (F0 m pc ls st0) := by
  intro T hT X0
  obtain ⟨v, st₀, tt, T', L, h0, X', hL, e1, e2, hQ, stp⟩ := hr T hT X0
  obtain ⟨ov, f2, hv, hz2, hP2, hF⟩ := hq _ _ _ hQ
  cases hv
  obtain ⟨hz, hk⟩ := hF
  rw [h0] at hz hk
  obtain ⟨t2, a1, b1⟩ := kk _ f2 hz2 T'.heap (locs ++ L) ⟨h.1, by rw [e1]; exact hP2, h.2.2.1,
      ⟨Nat.le_trans h.2.2.2.1 (by rw [e1]; exact hz), fun q h1 h2 => by rw [e1, hk q (Nat.lt_of_lt_of_le h1 h.2.2.2.1) (fun z => h2 (h.2.2.1.1 q z.1 z.2))]; exact h.2.2.2.2.1 q h1 h2, fun q hq => by
        rcases List.mem_append.mp hq with h1 | h1
        · exact h.2.2.2.2.2 q h1
        · exact h.2.2.1.1 _ (hL q h1).1 (hL q h1).2⟩⟩ T' rfl X'
  exact ⟨t2, stp t2 a1, b1⟩
/-- behind the call: a case of the contract -/
theorem xcase_ok {cur : List XV} {vs : List Value} {gi : List XI} {L : List (Nat × XV)} {S : List XV} {M : XM} {ys : List XC} {Gs : List Int} {lv : List (Nat × Value)} {st' : List Value} {f2 : Nat → va_E} {ov : Option Value} {o : XO} (h : xcases pc cur gi L S M.2.2.1 = some ys) (ho : o ∈ M.2.2.1) (hlen : M.2.2.1.all (fun o => o.2.2.1.length == E.2.2.2.length) = true)
    (hr0 : ∃ r, Gs = G0 ++ r) (hg : gok Gs gi) (hl : lv_has ls nl lv) (hL : LR (xB E lo xt) Gs L lv) (hc : SR (xB E lo xt) Gs cur vs) (hS : SR (xB E lo xt) Gs S st') (hO : OOK E xt lo (vs.map gv) o ov f2) (hT : TYP E xt t lo f2) (hZ : FZ E xt lo f0 f2) {H1 : Heap} {locs1 : List Loc} (hH : HX D t lo E.2.1.length f2 A s H1 locs1)
    (kk : ∀ y ∈ ys, GO E xt D t lo G0 f0 A nl p l e R s m args below meth c cells slots Q y) : W p l e R s m args below meth c H1 locs1 cells slots Q (F0 m (pc + 3) ls (ov.toList ++ st')) := by
  obtain ⟨zs, e1, e2⟩ := xcases_in h ho
  obtain ⟨o1, o2, vv, o3, o4, o5⟩ := hO
  obtain ⟨r0, hr0⟩ := hr0
  obtain ⟨g, g1, g2⟩ := xcuts_ok (bs := o.1) hg hc o1
  simp only [xcase, g1] at e1
  cases h2 : xinsts cur g o.2.2.1 with
  | none => rw [h2] at e1; cases e1
  | some q =>
    obtain ⟨g3, V⟩ := q
    rw [h2] at e1
    simp only at e1
    obtain ⟨t1, q1, q2⟩ := xinsts_ok h2 g2 hc o4
    have hV : VOK E xt lo (Gs ++ t1) V f2 := VOK_of q2 o3
    cases hrp : o.2.1 with
    | none =>
      rw [hrp] at e1 o2
      simp only at e1
      cases ov with
      | some w => exact absurd o2 (by simp)
      | none =>
        obtain ⟨g4, g5, g6⟩ := xrrc_ok (NR_app (NR_SR (SR_mono (t := t1) hc)) (NR_app (NR_SR q2) (show NR (Gs ++ t1) [] [] from ⟨rfl, fun i n z h => by simp at h⟩))) q1 (by simpa using o5)
        rw [g5] at e1
        simp only [Option.some.injEq] at e1
        exact kk (pc + 3, g4, L, S, V) (e2 _ (by rw [← e1]; exact List.mem_cons_self)) _ _ _ _ ⟨Gs ++ t1, f2, lv, ⟨r0 ++ t1, by rw [hr0, List.append_assoc]⟩, g6, hl, LR_mono hL, SR_mono hS, hV, hT, hZ, hH⟩
    | some P =>
      rw [hrp] at e1 o2
      simp only at e1
      cases ov with
      | none => exact absurd o2 (by simp)
      | some w =>
        cases h7 : xinst cur g3 P with
        | none => rw [h7] at e1; cases e1
        | some q =>
          obtain ⟨g4, v⟩ := q
          rw [h7] at e1
          simp only at e1
          obtain ⟨t2, w1, w2⟩ := xinst_ok h7 q1 (SR_mono hc) o2
          have hone : SR (xB E lo xt) (Gs ++ t1 ++ t2) [v] [w] := ⟨w2, trivial⟩
          obtain ⟨g5, g6, g7⟩ := xrrc_ok (NR_app (NR_SR (SR_mono (t := t2) (SR_mono (t := t1) hc))) (NR_app (NR_SR (SR_mono (t := t2) q2)) (NR_SR hone))) w1 (by simpa using o5)
          simp only [List.map_cons, List.map_nil] at g6
          rw [g6] at e1
          simp only [Option.some.injEq] at e1
          exact kk (pc + 3, g5, L, v :: S, V) (e2 _ (by rw [← e1]; exact List.mem_cons_self)) _ _ _ _ ⟨Gs ++ t1 ++ t2, f2, lv, ⟨r0 ++ t1 ++ t2, by rw [hr0]; simp only [List.append_assoc]⟩, g7, hl, LR_mono (LR_mono hL), ⟨w2, SR_mono (SR_mono hS)⟩, VOK_mono hV, hT, hZ, hH⟩
theorem QcX_back {M : XM} {G : List Int} {f : Nat → va_E} {av : Array Value} : ∀ (st : State) (oc : Outcome) (tt : State), QcX E xt D t lo M G f av st oc tt → ∃ (ov : Option Value) (f2 : Nat → va_E), oc = .returned ov ∧ (∃ o, o ∈ M.2.2.1 ∧ OOK E xt lo G o ov f2 ∧ TYP E xt t lo f2 ∧ FZ E xt lo f f2) ∧ va_P D vwCl (px_W lo E.2.1.length f2) tt.heap ∧ va_F (px_A lo E.2.1.length) st tt := by
  intro st oc tt h
  obtain ⟨ov, f2, o, a1, a2, a3, a4, a5, a6, a7⟩ := h
  exact ⟨ov, f2, a1, ⟨o, a2, a3, a4, a5⟩, a6, a7⟩
theorem SR_split {B : Nat → Nat → Prop} {Gs : List Int} {as V : List XV} {vs vv : List Value} (h1 : SR B Gs as vs) (h2 : SR B Gs V vv) : SR B Gs (as ++ V) (vs ++ vv) := SR_app h1 h2
theorem stepE_ok {kc : Nat} {dep : List Nat} {ml : XL} {ce : List (Nat × XM)} {ys : List XY} (X : CX p s m args meth c own cc nl ret) (hml : MLok own ys ml) (hce : ∀ q ∈ ce, ∃ Y, ys[q.1]? = some Y ∧ HOLDS l E xt D t lo Y q.2) (hdep : ∀ (no k : Nat) (Y : XY), dep[no]? = some k → ys[no]? = some Y → Y.2.2.2.2 = k) (hRk : kc ≤ R.frames ∧ 60 * kc ≤ R.locals) (hRc : cells ≤ R.cells ∧ slots ≤ R.slots)
    (hd : decode cc x.1 = .ok (ins, xlen ins)) (h : stepE kc dep E ml ce ins x = some xs) (hs : SAT E xt D t lo G0 f0 A s nl x H locs ls st)
    (kk : ∀ y ∈ xs, GO E xt D t lo G0 f0 A nl p l e R s m args below meth c cells slots Q y) : W p l e R s m args below meth c H locs cells slots Q (F0 m x.1 ls st) := by
  have main : ∀ (i stt : Nat), xgo kc dep E ml ce i stt x = some xs → (stt = 0 ∧ decode cc x.1 = .ok (.invokevirtual i, 3) ∨ stt = 1 ∧ decode cc x.1 = .ok (.invokestatic i, 3)) → W p l e R s m args below meth c H locs cells slots Q (F0 m x.1 ls st) := by
    intro i stt h hd
    obtain ⟨pc, gi, L, S, V⟩ := x
    simp only [xgo] at h
    cases h1 : xml ml i with
    | none => rw [h1] at h; cases h
    | some r =>
      obtain ⟨no, stc, na, ci⟩ := r
      rw [h1] at h
      simp only at h
      by_cases c1 : stc = stt
      · rw [if_pos c1] at h
        subst c1
        cases h2 : xpop (na + 1 - stc) [] S with
        | none => rw [h2] at h; cases h
        | some r2 =>
          obtain ⟨as, S'⟩ := r2
          rw [h2] at h
          cases h3 : dep[no]? with
          | none => rw [h3] at h; cases h
          | some k =>
            rw [h3] at h
            simp only at h
            by_cases c2 : k + 1 ≤ kc ∧ (S'.map xcat).sum ≤ 8 ∧ xrecv E stc ci as = true ∧ V.length = E.2.2.2.length
            · rw [if_pos c2] at h
              obtain ⟨c2, c3, c4, c5⟩ := c2
              cases h4 : xfind gi (as ++ V) no ce with
              | none => rw [h4] at h; cases h
              | some M =>
                rw [h4] at h
                simp only at h
                by_cases c6 : as.length = M.1.length ∧ M.2.2.1.all (fun o => o.2.2.1.length == E.2.2.2.length) = true
                · rw [if_pos c6] at h
                  obtain ⟨Gs, f, lv, hr0, hg, hl, hL, hS, hV, hT, hZ, hH⟩ := hs
                  obtain ⟨Y, hY, -, -, -, mm⟩ := hml i no stc na ci h1
                  obtain ⟨m1, m2, m3, m4, m5, m6⟩ := mm (by rcases hd with ⟨e, _⟩ | ⟨e, _⟩ <;> omega)
                  obtain ⟨f1, f2, f3⟩ := xfind_in h4
                  obtain ⟨Y', hY', hHo⟩ := hce _ f1
                  rw [hY] at hY'
                  cases hY'
                  have hk := hdep no k Y h3 hY
                  obtain ⟨vs, st', q1, q2, q3, ws, q4, q5⟩ := xpop_ok (B := xB E lo xt) (Gs := Gs) _ _ _ _ _ [] st h2 trivial hS
                  simp only [List.append_nil] at q4
                  subst q4
                  obtain ⟨vv, v1, v2⟩ := VOK_vals hV c5
                  have hcur : SR (xB E lo xt) Gs (as ++ V) (vs ++ vv) := SR_app q1 v1
                  have hlen : vs.length = M.1.length := by rw [← SR_len q1]; exact c6.1
                  have hMet := hHo vs ((vs ++ vv).map gv) f ⟨vv, v2, xfitl_ok hg f2 hcur, hlen, xrch_ok hg (NR_SR hcur) f3⟩ hT hZ.2
                  have hR : Y.2.2.2.2 + 1 ≤ R.frames ∧ 8 + (Y.2.2.1 + 11) + 60 * Y.2.2.2.2 ≤ R.locals := by rw [hk]; omega
                  have hcat : (st'.map fun v => v.category).sum ≤ 8 := by rw [SR_cat q2]; exact c3
                  have fin : ∀ (ov : Option Value) (f2 : Nat → va_E), (∃ o, o ∈ M.2.2.1 ∧ OOK E xt lo ((vs ++ vv).map gv) o ov f2 ∧ TYP E xt t lo f2 ∧ FZ E xt lo f f2) → ∀ (H1 : Heap) (locs1 : List Loc), HX D t lo E.2.1.length f2 A s H1 locs1 → W p l e R s m args below meth c H1 locs1 cells slots Q (F0 m (pc + 3) ls (ov.toList ++ st')) := by
                    intro ov f2 hz H1 locs1 hH1
                    obtain ⟨o, z1, z2, z3, z4⟩ := hz
                    exact xcase_ok h z1 c6.2 hr0 hg hl hL hcur q2 z2 z3 (FZ_tr hZ z4) hH1 kk
                  rcases hd with ⟨e0, hd⟩ | ⟨e0, hd⟩
                  · subst e0
                    rw [if_neg (by decide), if_neg (by decide), if_neg (by decide), if_neg (by decide)] at m6
                    obtain ⟨m6, m7, TT, N, m8⟩ := m6
                    -- the receiver
                    match as, q1, c4 with
                    | .inr (.inl κ) :: as', q1, c4 =>
                      obtain ⟨v0, As, rfl, ⟨b, rfl, hB⟩, q1'⟩ := SR_cons q1
                      simp only [xrecv] at c4
                      rw [if_neg (by decide)] at c4
                      cases hκ : E.1[κ]? with
                      | none => rw [hκ] at c4; cases c4
                      | some κ' =>
                        rw [hκ] at c4
                        match κ', hκ, c4 with
                        | .inr _, hκ, c4 => cases c4
                        | .inl (ci', ts), hκ, c4 =>
                          simp only [beq_iff_eq] at c4
                          subst c4
                          obtain ⟨ob, rfl, hob⟩ := xB_in hB hκ
                          obtain ⟨κ2, k1, k2⟩ := hT ob κ hob
                          rw [hκ] at k1
                          cases k1
                          obtain ⟨fs, e1, e2, e3⟩ := k2
                          have hat : px_at lo E.2.1.length f (lo + ob) (.inr (ci', fs)) := ⟨⟨by omega, by have := xB_lt hob; omega⟩, e1⟩
                          have hG : GoodIn Wd (wsV own i Y.1.cls Y.1 (px_ws Y.1 Y.2.1 Y.2.2.1 Y.2.2.2.1)) := by
                            intro w hw
                            unfold wsV at hw
                            rcases List.mem_append.mp hw with q | q
                            · simp only [List.mem_cons, List.not_mem_nil, or_false] at q
                              rcases q with rfl | rfl | rfl | rfl
                              · exact Wd_good _ m1
                              · exact Wd_good _ m6
                              · exact Wd_good _ m7
                              · exact Wd_good _ m3
                            · exact wd_all m2 w q
                          have hna : As.length = na := by simp at q3; omega
                          have hst : st = As.reverse ++ .ref (lo + ob) :: st' := by rw [q5]; simp
                          refine x_back hH (rest := st') (va_runV (As := As) (rest := st') ⟨X.1, X.2.1, X.2.2.1, X.2.2.2.1, X.2.2.2.2.1⟩ hMet (cwV na X.2.2.2.2.1 hG rfl rfl rfl ⟨rfl, m4⟩ hR) ⟨PcM.blind, va_recv hH.1 hH.2.1 m8 (q0 := lo + ob - lo) (by rw [px_get hat.1, hat.2]), fun U hU hW => ⟨rfl, va_K.moved hW.alike hH.1, by rw [hU]; exact hH.2.1, SX.into hH.2.2.1.2 hH.2.2.2 hU hW (fun q z => hH.2.2.1.1 q z.1 z.2)⟩⟩ rfl hna hl.1 hst (lv_room hcat) hd hRc) QcX_back fin
                  · subst e0
                    rw [if_pos rfl] at m6
                    have hG : GoodIn Wd (va_wsS own i Y.1 (px_ws Y.1 Y.2.1 Y.2.2.1 Y.2.2.2.1)) := by
                      intro w hw
                      unfold va_wsS at hw
                      rcases List.mem_append.mp hw with q | q
                      · simp only [List.mem_cons, List.not_mem_nil, or_false] at q
                        rcases q with rfl | rfl | rfl
                        · exact Wd_good _ m1
                        · exact Wd_good _ m6
                        · exact Wd_good _ m3
                      · exact wd_all m2 w q
                    have hna : vs.length = na := by simp at q3; omega
                    refine x_back hH (rest := st') (va_runS (As := vs) (rest := st') ⟨X.1, X.2.1, X.2.2.1, X.2.2.2.1, X.2.2.2.2.1⟩ hMet (va_cwS na X.2.2.2.2.1 hG rfl rfl rfl m4 hR) ⟨PcM.blind, fun U hU hW => ⟨rfl, va_K.moved hW.alike hH.1, by rw [hU]; exact hH.2.1, SX.into hH.2.2.1.2 hH.2.2.2 hU hW (fun q z => hH.2.2.1.1 q z.1 z.2)⟩⟩ rfl hna hl.1 q5 (lv_room hcat) hd hRc) QcX_back fin
                · rw [if_neg c6] at h; cases h
            · rw [if_neg c2] at h; cases h
      · rw [if_neg c1] at h; cases h
  unfold stepE at h
  split at h
  · exact main _ 0 h (Or.inl ⟨rfl, hd⟩)
  · exact main _ 1 h (Or.inr ⟨rfl, hd⟩)
  · cases h
end XO
