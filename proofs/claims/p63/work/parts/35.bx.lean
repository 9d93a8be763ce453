/-! rows for proofs by hand, by the tables of links -/
section BX
variable {p : Program} {l : Launch} {e : Env} {R : Room} {s : State} {m : MethodId} {args : Array Value} {below : List Frame} {meth : Method} {c : Code} {H : Heap} {locs : List Loc} {cells slots : Nat} {Q : State → Prop}
variable {cc : ByteArray} {own : String} {nl : Nat} {ret : Option FieldType} {pc : Nat} {ls : Array Slot} {rest : List Value} {D : va_G} {t : Nat → ClassId} {lo n : Nat} {f : Nat → va_E} {A : Nat → Prop} {a : Nat} {fl : XF}
theorem bx_get (hF : FLok own fl) {i ci k b : Nat} (hi : xfl fl i = some (ci, k, b)) (X : CX p s m args meth c own cc nl ret) (h : HX D t lo n f A s H locs) {fs : List Value} (ha : px_at lo n f a (.inr (ci, fs))) {v : Value} (hv : fs[k]? = some v) (hdg : decode cc pc = .ok (.getfield i, 3))
    (kk : W p l e R s m args below meth c H locs cells slots Q (F0 m (pc + 3) ls (v :: rest))) : W p l e R s m args below meth c H locs cells slots Q (F0 m pc ls (.ref a :: rest)) := by
  obtain ⟨C, TT, N, ty0, u1, u2, u3, u4, u5, u6, u7⟩ := hF i ci k b hi
  exact px_getf X h ha u1 u2 k u5 u6 rfl hv hdg kk
theorem bx_puti (hF : FLok own fl) {i ci k : Nat} (hi : xfl fl i = some (ci, k, 0)) (X : CX p s m args meth c own cc nl ret) (h : HX D t lo n f A s H locs) {fs : List Value} (ha : px_at lo n f a (.inr (ci, fs))) (hk : k < fs.length) {v : Int32} (hdg : decode cc pc = .ok (.putfield i, 3))
    (kk : ∀ (H1 : Heap) (locs1 : List Loc), HX D t lo n (va_up f a (.inr (ci, fs.set k (.int v)))) A s H1 locs1 → W p l e R s m args below meth c H1 locs1 cells slots Q (F0 m (pc + 3) ls rest)) : W p l e R s m args below meth c H locs cells slots Q (F0 m pc ls (.int v :: .ref a :: rest)) := by
  obtain ⟨C, TT, N, ty0, u1, u2, u3, u4, u5, u6, u7⟩ := hF i ci k 0 hi
  obtain ⟨e1, e2⟩ := u7
  exact px_putf X h ha u1 u2 u3 u4 k u5 u6 rfl e2 (by rw [e1]; rfl) (by rw [e1]; rfl) hk hdg kk
theorem bx_putl (hF : FLok own fl) {i ci k : Nat} (hi : xfl fl i = some (ci, k, 2)) (X : CX p s m args meth c own cc nl ret) (h : HX D t lo n f A s H locs) {fs : List Value} (ha : px_at lo n f a (.inr (ci, fs))) (hk : k < fs.length) {v : Int64} (hdg : decode cc pc = .ok (.putfield i, 3))
    (kk : ∀ (H1 : Heap) (locs1 : List Loc), HX D t lo n (va_up f a (.inr (ci, fs.set k (.long v)))) A s H1 locs1 → W p l e R s m args below meth c H1 locs1 cells slots Q (F0 m (pc + 3) ls rest)) : W p l e R s m args below meth c H locs cells slots Q (F0 m pc ls (.long v :: .ref a :: rest)) := by
  obtain ⟨C, TT, N, ty0, u1, u2, u3, u4, u5, u6, u7⟩ := hF i ci k 2 hi
  obtain ⟨e1, e2⟩ := u7
  exact px_putf X h ha u1 u2 u3 u4 k u5 u6 rfl e2 (by rw [e1]; rfl) (by rw [e1]; rfl) hk hdg kk
end BX
/-- a contract out of an exact one -/
theorem HOLDS_of {l : Launch} {E : XE} {xt : XX} {D : va_G} {t : Nat → ClassId} {lo : Nat} {Y : XY} {M : XM} (h : ∀ (vs : List Value) (G0 : List Int) (f : Nat → va_E), ENT E xt lo M vs G0 f → TYP E xt t lo f → xt.2 lo f → ∃ (f' : Nat → va_E) (ov : Option Value) (o : XO), MetM l Y.1 Y.2.1 Y.2.2.1 Y.2.2.2.1 Y.2.2.2.2 D t lo E.2.1.length f vs f' ov ∧ o ∈ M.2.2.1 ∧ OOK E xt lo G0 o ov f' ∧ TYP E xt t lo f' ∧ FZ E xt lo f f') : HOLDS l E xt D t lo Y M := by
  intro vs G0 f hent hT hX
  obtain ⟨f', ov, o, hM, ho, hO, hT', hZ⟩ := h vs G0 f hent hT hX
  exact MetFree.mono hM (fun _ _ h => h) (fun _ _ _ _ _ h => h) (fun a st oc tt _ h => ⟨⟨ov, f', o, h.1.1, ho, hO, hT', hZ, h.1.2.1, h.1.2.2⟩, h.2⟩)
