/-! a method's run from its beginning, between nodes, to where P stops it; a contract that is checked holds -/
noncomputable def xchkP (E : XE) (g : XG) (M : XM) (rt : Nat) (cc : ByteArray) (N : List (Nat × List XD)) (hs : List (Nat × Nat)) (P : XC → Bool) (fuel : Nat) : Bool := decide (xwords M.1 ≤ g.2.1.1) && N.all (fun q => q.2.all (nchk E g M rt cc N hs P fuel)) && (match xrrc (xids (M.1.length + M.2.1.length)) M.2.2.2 ((M.1 ++ M.2.1).map xbd) with
  | some gi => (xspl hs (0, gi, xargs 0 0 M.1, [], xvs M.1.length M.2.1)).all (xrunN E g M rt cc N hs P none fuel)
  | none => true)
noncomputable abbrev xchkN (E : XE) (g : XG) (M : XM) (rt : Nat) (cc : ByteArray) (N : List (Nat × List XD)) (hs : List (Nat × Nat)) (fuel : Nat) : Bool := xchkP E g M rt cc N hs (fun _ => false) fuel
/-- whatever the end Qc is: the points where P stops lead to it, and so do the ends that M's cases tell -/
theorem chk_soundP {l : Launch} {E : XE} {xt : XX} {D : va_G} {t : Nat → ClassId} {lo : Nat} {Y : XY} {M : XM} {g : XG} {ys : List XY} {rt fuel : Nat} {N : List (Nat × List XD)} {hs : List (Nat × Nat)} {P : XC → Bool} {Qc : Array Value → State → Outcome → State → Prop} {vs : List Value} {G0 : List Int} {f : Nat → va_E} (hy : plainName Y.1.cls = true) (hnl : g.2.1.1 = Y.2.2.1) (hk : g.2.1.2 = Y.2.2.2.2) (hG : XGok l E xt D t lo Y.1.cls ys g) (h : xchkP E g M rt Y.2.1 N hs P fuel = true) (hent : ENT E xt lo M vs G0 f) (hT : TYP E xt t lo f) (hX : xt.2 lo f)
    (hend : ∀ (p : Program) (e : Env) (s : State) (m : MethodId) (below : List Frame) (meth : Method) (c : Code), CX p s m vs.toArray meth c Y.1.cls Y.2.1 Y.2.2.1 Y.2.2.2.1 → ∀ (x : XC) (ins : Instr) (len : Nat) (H : Heap) (locs : List Loc) (ls : Array Slot) (st : List Value), decode Y.2.1 x.1 = .ok (ins, len) → xend E M rt ins x = true → len = 1 → SAT E xt D t lo G0 f (px_A lo E.2.1.length) s Y.2.2.1 x H locs ls st → W p l e (px_rm Y.2.2.2.2) s m vs.toArray below meth c H locs 0 0 (MQ below Qc vs.toArray s 0 0 (px_A lo E.2.1.length)) (F0 m x.1 ls st))
    (hP : ∀ (p : Program) (e : Env) (s : State) (m : MethodId) (below : List Frame) (meth : Method) (c : Code), CX p s m vs.toArray meth c Y.1.cls Y.2.1 Y.2.2.1 Y.2.2.2.1 → ∀ y : XC, P y = true → GO E xt D t lo G0 f (px_A lo E.2.1.length) Y.2.2.1 p l e (px_rm Y.2.2.2.2) s m vs.toArray below meth c 0 0 (MQ below Qc vs.toArray s 0 0 (px_A lo E.2.1.length)) y) : Met l Y.1 (px_ws Y.1 Y.2.1 Y.2.2.1 Y.2.2.2.1) (px_rm Y.2.2.2.2) (PcM D t lo E.2.1.length f vs) Qc 0 0 (px_A lo E.2.1.length) := by
  obtain ⟨vv, hv, ha, hlen, hrel⟩ := hent
  obtain ⟨za, zv, e, a1, a2⟩ := AOK_split ha hlen
  simp only [xchkP, Bool.and_eq_true, decide_eq_true_eq] at h
  obtain ⟨⟨h0, hnod⟩, hrun⟩ := h
  refine Met.ofW (cc := Y.2.1) (maxL := Y.2.2.1) (ret := Y.2.2.2.1) hy rfl ?_
  intro p e' s m args below meth c s₁ B hml hvv
  obtain ⟨rfl, hK, hPo, hSX⟩ := hvv
  have hts := atoms_spec (ws := px_ws Y.1 Y.2.1 Y.2.2.1 Y.2.2.2.1) B.pre
  have hl := lv_entry vs (n := Y.2.2.1) (by rw [lg_len a1, ← hnl]; exact h0)
  rw [lg_entry_eq]
  have X : CX p s m vs.toArray meth c Y.1.cls Y.2.1 Y.2.2.1 Y.2.2.2.1 := ⟨B.exec, B.bytes, hml, findClass_of_methodNamed B.named, fun w h => hts w (List.mem_cons_of_mem _ h), B.notSynchronized, B.returns⟩
  have hH : HX D t lo E.2.1.length f (px_A lo E.2.1.length) s s.heap [] := ⟨hK, hPo, ⟨fun q h1 h2 => ⟨h1, h2⟩, hSX⟩, va_S.rf⟩
  have hlz := AOK_len a1
  have hz1 : ∀ (j : Nat) (z : Int), za[j]? = some z → G0[0 + j]? = some z := fun j z hj => by
    rw [e, Nat.zero_add, List.getElem?_append_left (List.getElem?_eq_some_iff.mp hj).1]; exact hj
  have hz2 : ∀ (j : Nat) (z : Int), zv[j]? = some z → G0[M.1.length + j]? = some z := fun j z hj => by
    rw [e, List.getElem?_append_right (by omega), show M.1.length + j - za.length = j by omega]; exact hj
  have hE : G0.length = M.1.length + M.2.1.length := by rw [(AOK_len ha).1, List.length_append]
  have hRk : g.2.1.2 ≤ (px_rm Y.2.2.2.2).frames ∧ 60 * g.2.1.2 ≤ (px_rm Y.2.2.2.2).locals := by rw [hk]; exact ⟨Nat.le_refl _, Nat.le_refl _⟩
  have hid := NR_id (G0 := G0) (r := [])
  rw [List.append_nil, hE] at hid
  obtain ⟨gi, g1, g2⟩ := xrrc_ok hid (gok_ent ha) hrel
  rw [g1] at hrun
  simp only at hrun
  refine xspl_ok (G0 := G0 ++ []) (fun y' hy' => xrunN_ok (fr := []) (old := none) (R := px_rm Y.2.2.2.2) (cells := 0) (slots := 0) X hG hnl hRk ⟨Nat.le_refl _, Nat.le_refl _⟩ (hend p e' s m below meth c X) (hP p e' s m below meth c X) ?_ fuel y' (List.all_eq_true.mp hrun y' hy')) s.heap [] _ [] ⟨G0, f, lv_args 0 vs, ⟨[], by simp⟩, g2, hl, LR_args 0 0 a1 hz1, trivial, ?_, hT, ⟨fun i k _ _ => rfl, hX⟩, hH⟩
  · intro y ds d hf hd e2 hna H' locs' ls' st' hS'
    obtain ⟨z', n1, -⟩ := narr_ok (zo := 0) hE hna (fun F' hF' r => by cases hF') hS'
    rw [← e2]
    exact nodes_ok (R := px_rm Y.2.2.2.2) X hE hG hnl hRk ⟨Nat.le_refl _, Nat.le_refl _⟩ (hend p e' s m below meth c X) (hP p e' s m below meth c X) hnod (z'.toNat + 1) (y.1, ds) d z' H' locs' ls' st' (nfind_in hf) hd (Nat.lt_succ_self _) n1
  · intro j o k x h1 h2
    obtain ⟨v, q1, q2⟩ := xvs_ok M.1.length a2 hz2 j x h2
    exact ⟨v, hv j o k v h1 q1, q2⟩
theorem chk_soundN {l : Launch} {E : XE} {xt : XX} {D : va_G} {t : Nat → ClassId} {lo : Nat} {Y : XY} {M : XM} {g : XG} {ys : List XY} {rt fuel : Nat} {N : List (Nat × List XD)} {hs : List (Nat × Nat)} (hy : plainName Y.1.cls = true) (hrt : RTok rt Y.2.2.2.1) (hnl : g.2.1.1 = Y.2.2.1) (hk : g.2.1.2 = Y.2.2.2.2) (hG : XGok l E xt D t lo Y.1.cls ys g) (h : xchkN E g M rt Y.2.1 N hs fuel = true) : HOLDS l E xt D t lo Y M := by
  intro vs G0 f hent hT hX
  have hE : G0.length = M.1.length + M.2.1.length := by
    obtain ⟨vv, hv, ha, hlen, hrel⟩ := hent
    rw [(AOK_len ha).1, List.length_append]
  exact chk_soundP hy hnl hk hG h hent hT hX (fun p e s m below meth c X x ins len H locs ls st hd hx hl hs => xend_ok X hrt hE hd hx hl hs) (fun _ _ _ _ _ _ _ _ _ hh => absurd hh (by simp))
