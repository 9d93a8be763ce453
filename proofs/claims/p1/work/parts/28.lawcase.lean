/-! THE LAW: a case -/
/-- V behind the first call fits what the second wants -/
def vmid (M1 : XM) : Bool := M1.2.2.all (fun o => match o.2.2 with
  | [.inl (.inl (a, b)), .inl (.inl (c, d))] => decide (0 ≤ a) && decide (b ≤ 20) && decide (0 ≤ c) && decide (d ≤ 0)
  | _ => false)
section LAWC
variable {p : Program} {l : Launch} {e : Env} {s : State} {m : MethodId} {below : List Frame} {meth : Method} {c : Code} {H : Heap} {locs : List Loc} {cells slots : Nat} {Q : State → Prop} {R : Room} {args : Array Value}
variable {D : va_G} {t : Nat → ClassId} {lo b pc : Nat} {cc : ByteArray} {xs : Nat → Int32} {ls : Array Slot} {A : Nat → Prop} {E : XE}
theorem law_two {rt : Option FieldType} {Y1 Y2 : XY} {M1 M2 : XM} {f : Nat → va_E} {i1 i2 n pc1 pc2 kx km : Nat} {ts1 ts2 : List XT} {As : List Value} {ps : List XP} (X : CX p s m args meth c RL cc 4 rt) (hl : lv_has ls 4 (lawL b lo)) (hH : HX D t lo E.2.1.length f A s H locs) (hT : TYP E t lo f) (hV : TRV E lo f [.int 0, .int 0])
    (hA : AOK (xB E lo) ps As (As.map gv)) (hM1 : M1.1 = pR kx :: ps ∧ M1.2.1 = [pI 0 0, pI 0 0]) (hM2 : M2.1 = pR km :: ps ∧ M2.2.1 = [pI 0 20, pI 0 0]) (hmid : vmid M1 = true) (htr : ∃ a1 a2, E.2.2.2 = [a1, a2])
    (hh1 : HOLDS l E D t lo Y1 M1) (hh2 : HOLDS l E D t lo Y2 M2) (hml1 : ML1 RL Y1 i1 0 n 10) (hml2 : ML1 RL Y2 i2 0 n 11) (ho1 : E.2.1[0]? = some kx) (hk1 : E.1[kx]? = some (.inl (10, ts1))) (ho2 : E.2.1[304]? = some km) (hk2 : E.1[km]? = some (.inl (11, ts2)))
    (hR1 : Y1.2.2.2.2 + 1 ≤ R.frames ∧ 60 * (Y1.2.2.2.2 + 1) ≤ R.locals) (hR2 : Y2.2.2.2.2 + 1 ≤ R.frames ∧ 60 * (Y2.2.2.2.2 + 1) ≤ R.locals) (hRc : cells ≤ R.cells ∧ slots ≤ R.slots) (hn : As.length = n)
    (d0 : dq cc pc (.aload_n 1) 1 = true) (d1 : dq cc pc1 (.invokevirtual i1) 3 = true) (d2 : dq cc (pc1 + 3) (.aload_n 2) 1 = true) (d3 : dq cc pc2 (.invokevirtual i2) 3 = true)
    (ld1 : ∀ (H : Heap) (locs : List Loc) (st : List Value), va_S A s.heap H locs → W p l e R s m args below meth c H locs cells slots Q (F0 m pc1 ls (As.reverse ++ st)) → W p l e R s m args below meth c H locs cells slots Q (F0 m (pc + 1) ls st))
    (ld2 : ∀ (H : Heap) (locs : List Loc) (st : List Value), va_S A s.heap H locs → W p l e R s m args below meth c H locs cells slots Q (F0 m pc2 ls (As.reverse ++ st)) → W p l e R s m args below meth c H locs cells slots Q (F0 m (pc1 + 4) ls st))
    (kk : ∀ (ov1 ov2 : Option Value) (o1 o2 : XO) (f1 f2 : Nat → va_E) (r2 : List Int), o1 ∈ M1.2.2 → o2 ∈ M2.2.2 → OOK E lo (0 :: (As.map gv ++ [0, 0])) o1 ov1 f1 → OOK E lo (0 :: (As.map gv ++ r2)) o2 ov2 f2 → ∀ (H1 : Heap) (locs1 : List Loc), HX D t lo E.2.1.length f2 A s H1 locs1 → W p l e R s m args below meth c H1 locs1 cells slots Q (F0 m (pc2 + 3) ls (ov2.toList ++ ov1.toList))) : W p l e R s m args below meth c H locs cells slots Q (F0 m pc ls []) := by
  obtain ⟨a1, a2, htr⟩ := htr
  refine lv_aload_n X.1 X.2.1 (dq_ok d0) rfl (lv_at hl 2 rfl) ?_
  refine ld1 H locs _ hH.2.2.2 ?_
  have hM := hh1 (.ref (lo + 0) :: As) (0 :: (As.map gv ++ [0, 0])) f ⟨[.int 0, .int 0], hV, by
    rw [hM1.1, hM1.2]
    refine ⟨⟨⟨lo + 0, rfl, 0, rfl, ho1⟩, rfl⟩, ?_⟩
    have aux : ∀ {ps : List XP} {As : List Value} {zs : List Int}, AOK (xB E lo) ps As zs → AOK (xB E lo) (ps ++ [pI 0 0, pI 0 0]) (As ++ [.int 0, .int 0]) (zs ++ [0, 0]) := by
      intro ps
      induction ps with
      | nil =>
        intro As zs h
        match As, zs, h with
        | [], [], _ => exact ⟨⟨0, rfl, rfl, by omega, by omega⟩, ⟨0, rfl, rfl, by omega, by omega⟩, trivial⟩
      | cons P ps ih =>
        intro As zs h
        match As, zs, h with
        | v :: As, z :: zs, ⟨h1, h2⟩ => exact ⟨h1, ih h2⟩
    exact aux hA, by rw [hM1.1]; simp [(AOK_len hA).2]⟩ hT
  refine lcall (As := As) (rest := []) X hl.1 hH hT hM hml1 ho1 hk1 hR1 hRc hn (by simp) (dq_ok d1) ?_
  intro ov1 f1 hz H1 locs1 hH1
  obtain ⟨o1, z1, z2, z3, -⟩ := hz
  have hcat1 : ((ov1.toList ++ []).map (fun v : Value => v.category)).sum ≤ 8 := by
    cases ov1 with
    | none => simp
    | some v => rcases lv_cat v with q | q <;> simp [q]
  rw [show pc1 + 4 = pc1 + 3 + 1 from rfl] at ld2
  refine lv_aload_n X.1 X.2.1 (dq_ok d2) rfl (lv_at hl 1 rfl) ?_
  refine ld2 H1 locs1 _ hH1.2.2.2 ?_
  -- V behind the first call
  have hv := List.all_eq_true.mp hmid o1 z1
  obtain ⟨i0, i1', hVV, hb0, hb1, hb2, hb3⟩ : ∃ (u w : Int32), TRV E lo f1 [.int u, .int w] ∧ 0 ≤ u.toInt ∧ u.toInt ≤ 20 ∧ 0 ≤ w.toInt ∧ w.toInt ≤ 0 := by
    split at hv
    · rename_i a b' c' d' heq
      simp only [Bool.and_eq_true, decide_eq_true_eq] at hv
      obtain ⟨ci, fs, v, q1, q2, q3⟩ := z2.2.2 0 a1.1 a1.2 (.inl (.inl (a, b'))) (by rw [htr]; rfl) (by rw [heq]; rfl)
      obtain ⟨u, rfl, u1, u2⟩ := q3
      obtain ⟨ci', fs', v', r1, r2, r3⟩ := z2.2.2 1 a2.1 a2.2 (.inl (.inl (c', d'))) (by rw [htr]; rfl) (by rw [heq]; rfl)
      obtain ⟨w, rfl, w1, w2⟩ := r3
      refine ⟨u, w, ?_, by omega, by omega, by omega, by omega⟩
      intro j o k v g1 g2
      rw [htr] at g1
      match j, g1, g2 with
      | 0, g1, g2 =>
        simp only [List.getElem?_cons_zero, Option.some.injEq] at g1 g2
        subst g1; subst g2
        exact ⟨ci, fs, q1, q2⟩
      | 1, g1, g2 =>
        simp only [List.getElem?_cons_succ, List.getElem?_cons_zero, Option.some.injEq] at g1 g2
        subst g1; subst g2
        exact ⟨ci', fs', r1, r2⟩
      | j + 2, g1, g2 => simp at g1
    · cases hv
  have hM := hh2 (.ref (lo + 304) :: As) (0 :: (As.map gv ++ [i0.toInt, i1'.toInt])) f1 ⟨[.int i0, .int i1'], hVV, by
    rw [hM2.1, hM2.2]
    refine ⟨⟨⟨lo + 304, rfl, 304, rfl, ho2⟩, rfl⟩, ?_⟩
    have aux : ∀ {ps : List XP} {As : List Value} {zs : List Int}, AOK (xB E lo) ps As zs → AOK (xB E lo) (ps ++ [pI 0 20, pI 0 0]) (As ++ [.int i0, .int i1']) (zs ++ [i0.toInt, i1'.toInt]) := by
      intro ps
      induction ps with
      | nil =>
        intro As zs h
        match As, zs, h with
        | [], [], _ => exact ⟨⟨i0, rfl, rfl, by omega, by omega⟩, ⟨i1', rfl, rfl, by omega, by omega⟩, trivial⟩
      | cons P ps ih =>
        intro As zs h
        match As, zs, h with
        | v :: As, z :: zs, ⟨h1, h2⟩ => exact ⟨h1, ih h2⟩
    exact aux hA, by rw [hM2.1]; simp [(AOK_len hA).2]⟩ z3
  refine lcall (As := As) (rest := ov1.toList ++ []) X hl.1 hH1 z3 hM hml2 ho2 hk2 hR2 hRc hn hcat1 (dq_ok d3) ?_
  intro ov2 f2 hz2 H2 locs2 hH2
  obtain ⟨o2, y1, y2, y3, -⟩ := hz2
  have := kk ov1 ov2 o1 o2 f1 f2 _ z1 y1 z2 y2 H2 locs2 hH2
  rw [List.append_nil]
  exact this
theorem law_caseI {rt : Option FieldType} {pcE : Nat} {off : Int} {v : Int32} (X : CX p s m args meth c RL cc 4 rt) (d : dq cc pcE (.if_icmp .eq off) 3 = true) (ht : (pcE : Int) + off = ((1893 : Nat) : Int)) (kk : W p l e R s m args below meth c H locs cells slots Q (F0 m 1893 ls [])) : W p l e R s m args below meth c H locs cells slots Q (F0 m pcE ls [.int v, .int v]) :=
  lv_icmp_eq X.1 X.2.1 (dq_ok d) ht (fun _ => kk) (fun h => absurd rfl h)
theorem law_caseL {rt : Option FieldType} {pcE : Nat} {off : Int} {v : Int64} (X : CX p s m args meth c RL cc 4 rt) (d1 : dq cc pcE .lcmp 1 = true) (d : dq cc (pcE + 1) (.ifCond .eq off) 3 = true) (ht : ((pcE + 1 : Nat) : Int) + off = ((1893 : Nat) : Int)) (kk : W p l e R s m args below meth c H locs cells slots Q (F0 m 1893 ls [])) : W p l e R s m args below meth c H locs cells slots Q (F0 m pcE ls [.long v, .long v]) := by
  refine W.lcmp X.1 X.2.1 (dq_ok d1) ?_
  have e0 : lg_cmp v v = 0 := by simp [lg_cmp]
  rw [e0]
  exact lv_if_eq X.1 X.2.1 (dq_ok d) ht (fun _ => kk) (fun h => absurd rfl h)
end LAWC
