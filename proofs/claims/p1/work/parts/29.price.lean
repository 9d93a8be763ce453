/-! a run that stops where P says; promise 15's method, whose answer is no constant -/
noncomputable def xrunP (E : XE) (g : XG) (P : XC → Bool) (cc : ByteArray) (fuel : Nat) : XC → Bool := Nat.rec (motive := fun _ => XC → Bool) (fun _ => false) (fun _ ih x => nforce x.1 (fun pc => if P (pc, x.2) = true then true else match decode cc pc with
  | .ok (ins, len) => (match xstep E g ins len (pc, x.2) with
    | some ys => ys.all ih
    | none => false)
  | .error _ => false)) fuel
section XPR
variable {E : XE} {D : va_G} {t : Nat → ClassId} {lo : Nat} {G0 : List Int} {f0 : Nat → va_E} {A : Nat → Prop}
variable {p : Program} {l : Launch} {e : Env} {R : Room} {s : State} {m : MethodId} {args : Array Value} {below : List Frame} {meth : Method} {c : Code} {cells slots : Nat} {Q : State → Prop}
variable {cc : ByteArray} {own : String} {nl : Nat} {ret : Option FieldType}
theorem xrunP_ok {g : XG} {ys : List XY} {P : XC → Bool} (X : CX p s m args meth c own cc nl ret) (hG : XGok l E D t lo own ys g) (hnl : g.2.1.1 = nl) (hRk : g.2.1.2 ≤ R.frames ∧ 60 * g.2.1.2 ≤ R.locals) (hRc : cells ≤ R.cells ∧ slots ≤ R.slots) (hP : ∀ y, P y = true → GO E D t lo G0 f0 A nl p l e R s m args below meth c cells slots Q y) : ∀ (fuel : Nat) (x : XC), xrunP E g P cc fuel x = true → GO E D t lo G0 f0 A nl p l e R s m args below meth c cells slots Q x := by
  intro fuel
  induction fuel with
  | zero => intro x h; cases h
  | succ n ih =>
    intro x h
    have e1 : xrunP E g P cc (n + 1) x = nforce x.1 (fun pc => if P (pc, x.2) = true then true else match decode cc pc with
      | .ok (ins, len) => (match xstep E g ins len (pc, x.2) with
        | some ys => ys.all (xrunP E g P cc n)
        | none => false)
      | .error _ => false) := rfl
    rw [e1, nforce_eq] at h
    by_cases c1 : P (x.1, x.2) = true
    · exact hP x c1
    · rw [if_neg c1] at h
      intro H locs ls st hs
      cases hd : decode cc x.1 with
      | error _ => rw [hd] at h; cases h
      | ok r =>
        obtain ⟨ins, len⟩ := r
        rw [hd] at h
        simp only at h
        cases h2 : xstep E g ins len (x.1, x.2) with
        | none => rw [h2] at h; cases h
        | some zs =>
          rw [h2] at h
          exact xstep_ok X hG hnl hRk hRc hd h2 hs (fun y hy => ih y (List.all_eq_true.mp h y hy))
end XPR
/-- a method begins at the point that its patterns tell -/
theorem run_start {l : Launch} {E : XE} {D : va_G} {t : Nat → ClassId} {lo : Nat} {Y : XY} {M : XM} {vs : List Value} {G0 : List Int} {f : Nat → va_E} {Qc : Array Value → State → Outcome → State → Prop} (hy : plainName Y.1.cls = true) (hw : xwords M.1 ≤ Y.2.2.1) (hent : ENT E lo M vs G0 f) (hT : TYP E t lo f)
    (body : ∀ (p : Program) (e : Env) (s : State) (m : MethodId) (below : List Frame) (meth : Method) (c : Code), CX p s m vs.toArray meth c Y.1.cls Y.2.1 Y.2.2.1 Y.2.2.2.1 → GO E D t lo G0 f (px_A lo E.2.1.length) Y.2.2.1 p l e (px_rm Y.2.2.2.2) s m vs.toArray below meth c 0 0 (MQ below Qc vs.toArray s 0 0 (px_A lo E.2.1.length)) (0, (M.1 ++ M.2.1).map xbd, xargs 0 0 M.1, [], xvs M.1.length M.2.1)) : Met l Y.1 (px_ws Y.1 Y.2.1 Y.2.2.1 Y.2.2.2.1) (px_rm Y.2.2.2.2) (PcM D t lo E.2.1.length f vs) Qc 0 0 (px_A lo E.2.1.length) := by
  obtain ⟨vv, hv, ha, hlen⟩ := hent
  obtain ⟨za, zv, e, a1, a2⟩ := AOK_split ha hlen
  refine Met.ofW (cc := Y.2.1) (maxL := Y.2.2.1) (ret := Y.2.2.2.1) hy rfl ?_
  intro p e' s m args below meth c s₁ B hml hvv
  obtain ⟨rfl, hK, hP⟩ := hvv
  have hts := atoms_spec (ws := px_ws Y.1 Y.2.1 Y.2.2.1 Y.2.2.2.1) B.pre
  have hl := lv_entry vs (n := Y.2.2.1) (by rw [lg_len a1]; exact hw)
  rw [lg_entry_eq]
  have X : CX p s m vs.toArray meth c Y.1.cls Y.2.1 Y.2.2.1 Y.2.2.2.1 := ⟨B.exec, B.bytes, hml, findClass_of_methodNamed B.named, fun w h => hts w (List.mem_cons_of_mem _ h), B.notSynchronized, B.returns⟩
  have hH : HX D t lo E.2.1.length f (px_A lo E.2.1.length) s s.heap [] := ⟨hK, hP, fun q h1 h2 => ⟨h1, h2⟩, va_S.rf⟩
  have hlz := AOK_len a1
  have hz1 : ∀ (j : Nat) (z : Int), za[j]? = some z → G0[0 + j]? = some z := fun j z hj => by
    rw [e, Nat.zero_add, List.getElem?_append_left (List.getElem?_eq_some_iff.mp hj).1]; exact hj
  have hz2 : ∀ (j : Nat) (z : Int), zv[j]? = some z → G0[M.1.length + j]? = some z := fun j z hj => by
    rw [e, List.getElem?_append_right (by omega), show M.1.length + j - za.length = j by omega]; exact hj
  refine body p e' s m below meth c X s.heap [] _ [] ⟨G0, f, lv_args 0 vs, ⟨[], by simp⟩, gok_ent ha, hl, LR_args 0 0 a1 hz1, trivial, ?_, hT, fun i k _ _ => rfl, hH⟩
  intro j o k x h1 h2
  obtain ⟨v, q1, q2⟩ := xvs_ok M.1.length a2 hz2 j x h2
  obtain ⟨ci, fs, b1, b2⟩ := hv j o k v h1 q1
  exact ⟨ci, fs, v, b1, b2, q2⟩
/-- the price of n at a trust w, as the machine reckons it -/
def prL (n : Int64) (w : Int32) : Int64 := n * (15 - w).toInt64 / 10
def prI (n w : Int32) : Int32 := if 0 ≤ n.toInt ∧ n.toInt ≤ 1000000 ∧ 0 ≤ w.toInt ∧ w.toInt ≤ 9 then (prL n.toInt64 w).toInt32 else -2
theorem c_priceAt (l : Launch) (D : va_G) (t : Nat → ClassId) (lo n : Nat) (f : Nat → va_E) (v : Int64) (w : Int32) : MetM l yX6_priceAt cX6_priceAt 3 (some .long) 0 D t lo n f [.long v, .int w] f (some (.long (prL v w))) := by
  refine MetM.start (by decide +kernel) (Nat.le_of_ble_eq_true rfl) ?_
  intro p e s m below meth c X hH ls hl
  have hl : lv_has ls 3 [(0, .long v), (2, .int w)] := hl
  refine lv_lload_n X.1 X.2.1 (show decode cX6_priceAt 0 = .ok (.lload_n 0, 1) from dq_ok (by decide +kernel)) rfl (lv_at hl 0 rfl) ?_
  refine lv_bipush (v := 15) X.1 X.2.1 (show decode cX6_priceAt 1 = .ok (.bipush 15, 2) from dq_ok (by decide +kernel)) (by decide) ?_
  refine lv_iload_n X.1 X.2.1 (show decode cX6_priceAt 3 = .ok (.iload_n 2, 1) from dq_ok (by decide +kernel)) rfl (lv_at hl 1 rfl) ?_
  refine lv_isub X.1 X.2.1 (show decode cX6_priceAt 4 = .ok (.isub, 1) from dq_ok (by decide +kernel)) ?_
  refine lv_i2l X.1 X.2.1 (show decode cX6_priceAt 5 = .ok (.i2l, 1) from dq_ok (by decide +kernel)) rfl ?_
  refine lv_lmul X.1 X.2.1 (show decode cX6_priceAt 6 = .ok (.lmul, 1) from dq_ok (by decide +kernel)) ?_
  refine lv_ldc2 (v := 10) X.1 X.2.1 X.2.2.2.1 (X.2.2.2.2.1 _ (q_X6_ok.2 56 10 (by decide))) (show decode cX6_priceAt 7 = .ok (.ldc2_w 56, 3) from dq_ok (by decide +kernel)) ?_
  refine lv_ldiv X.1 X.2.1 (show decode cX6_priceAt 10 = .ok (.ldiv, 1) from dq_ok (by decide +kernel)) (by decide) ?_
  exact px_lret X hH rfl (show decode cX6_priceAt 11 = .ok (.lreturn, 1) from dq_ok (by decide +kernel))
theorem c_priceOf (l : Launch) (D : va_G) (t : Nat → ClassId) (lo n : Nat) (f : Nat → va_E) (v : Int64) (w : Int32) : MetM l yX11_priceOf cX11_priceOf 3 (some .long) 0 D t lo n f [.long v, .int w] f (some (.long (prL v w))) := by
  refine MetM.start (by decide +kernel) (Nat.le_of_ble_eq_true rfl) ?_
  intro p e s m below meth c X hH ls hl
  have hl : lv_has ls 3 [(0, .long v), (2, .int w)] := hl
  refine lv_lload_n X.1 X.2.1 (show decode cX11_priceOf 0 = .ok (.lload_n 0, 1) from dq_ok (by decide +kernel)) rfl (lv_at hl 0 rfl) ?_
  refine lv_bipush (v := 15) X.1 X.2.1 (show decode cX11_priceOf 1 = .ok (.bipush 15, 2) from dq_ok (by decide +kernel)) (by decide) ?_
  refine lv_iload_n X.1 X.2.1 (show decode cX11_priceOf 3 = .ok (.iload_n 2, 1) from dq_ok (by decide +kernel)) rfl (lv_at hl 1 rfl) ?_
  refine lv_isub X.1 X.2.1 (show decode cX11_priceOf 4 = .ok (.isub, 1) from dq_ok (by decide +kernel)) ?_
  refine lv_i2l X.1 X.2.1 (show decode cX11_priceOf 5 = .ok (.i2l, 1) from dq_ok (by decide +kernel)) rfl ?_
  refine lv_lmul X.1 X.2.1 (show decode cX11_priceOf 6 = .ok (.lmul, 1) from dq_ok (by decide +kernel)) ?_
  refine lv_ldc2 (v := 10) X.1 X.2.1 X.2.2.2.1 (X.2.2.2.2.1 _ (q_X11_ok.2 311 10 (by decide))) (show decode cX11_priceOf 7 = .ok (.ldc2_w 311, 3) from dq_ok (by decide +kernel)) ?_
  refine lv_ldiv X.1 X.2.1 (show decode cX11_priceOf 10 = .ok (.ldiv, 1) from dq_ok (by decide +kernel)) (by decide) ?_
  exact px_lret X hH rfl (show decode cX11_priceOf 11 = .ok (.lreturn, 1) from dq_ok (by decide +kernel))
