/-! runs that are stopped: any end Z -/
section
variable {p : Program} {l : Launch} {e : Env} {R : Room} {s : State} {m : MethodId} {args : Array Value} {below : List Frame} {meth : Method} {c : Code} {H : Heap} {locs : List Loc} {cells slots : Nat} {Q Q' : State → Prop}
theorem W_mono {g : JFrame} (h : W p l e R s m args below meth c H locs cells slots Q g) (hq : ∀ t, Q t → Q' t) : W p l e R s m args below meth c H locs cells slots Q' g := fun T hT X => by
  obtain ⟨t, a, b⟩ := h T hT X
  exact ⟨t, a, hq t b⟩
theorem MQ_mono {Qc Qc' : Array Value → State → Outcome → State → Prop} {a : Array Value} {mc ms : Nat} {fr : Addr → Prop} {t : State} (hq : ∀ o t, Qc a s o t → Qc' a s o t) (h : MQ below Qc a s mc ms fr t) : MQ below Qc' a s mc ms fr t := by
  obtain ⟨o, h1, h2, h3, h4⟩ := h
  exact ⟨o, h1, h2, hq o t h3, h4⟩
end
theorem stopZ {l : Launch} {E : XE} {xt : XX} {D : va_G} {t : Nat → ClassId} {lo : Nat} {Y : XY} {M : XM} {g : XG} {ys : List XY} {rt fuel : Nat} {N : List (Nat × List XD)} {hs : List (Nat × Nat)} {P : XC → Bool} {Z : Option Value → (Nat → va_E) → Prop} {vs : List Value} {G0 : List Int} {f : Nat → va_E} (hy : plainName Y.1.cls = true) (hrt : RTok rt Y.2.2.2.1) (hnl : g.2.1.1 = Y.2.2.1) (hk : g.2.1.2 = Y.2.2.2.2) (hG : XGok l E xt D t lo Y.1.cls ys g) (h : xchkP E g M rt Y.2.1 N hs P fuel = true) (hent : ENT E xt lo M vs G0 f) (hT : TYP E xt t lo f) (hX : xt.2 lo f)
    (hend : ∀ ov f2, (∃ o, o ∈ M.2.2.1 ∧ OOK E xt lo G0 o ov f2 ∧ TYP E xt t lo f2 ∧ FZ E xt lo f f2) → Z ov f2)
    (hP : ∀ (p : Program) (e : Env) (s : State) (m : MethodId) (below : List Frame) (meth : Method) (c : Code), CX p s m vs.toArray meth c Y.1.cls Y.2.1 Y.2.2.1 Y.2.2.2.1 → ∀ y : XC, P y = true → ∀ (Gs : List Int) (f2 : Nat → va_E) (lv : List (Nat × Value)) (H : Heap) (locs : List Loc) (ls : Array Slot) (st : List Value), (∃ r, Gs = G0 ++ r) → gok Gs y.2.1 → lv_has ls Y.2.2.1 lv → LR (xB E lo xt) Gs y.2.2.1 lv → SR (xB E lo xt) Gs y.2.2.2.1 st → VOK E xt lo Gs y.2.2.2.2 f2 → TYP E xt t lo f2 → FZ E xt lo f f2 → HX D t lo E.2.1.length f2 (px_A lo E.2.1.length) s H locs → W p l e (px_rm Y.2.2.2.2) s m vs.toArray below meth c H locs 0 0 (MQ below (QcZ D lo E.2.1.length Z) vs.toArray s 0 0 (px_A lo E.2.1.length)) (F0 m y.1 ls st)) : MetZ l Y D t lo E.2.1.length f vs Z := by
  have hE : G0.length = M.1.length + M.2.1.length := by
    obtain ⟨vv, hv, ha, hlen, hrel⟩ := hent
    rw [(AOK_len ha).1, List.length_append]
  refine chk_soundP hy hnl hk hG h hent hT hX (fun p e s m below meth c X x ins len H locs ls st hd hx hl hs => W_mono (xend_ok X hrt hE hd hx hl hs) (fun t => MQ_mono (fun o t q => ?_))) (fun p e s m below meth c X y hy H locs ls st hs => ?_)
  · obtain ⟨ov, f2, a1, a2, a3⟩ := QcX_back _ _ _ q
    exact ⟨ov, f2, a1, hend ov f2 a2, a3⟩
  · obtain ⟨Gs, f2, lv, h1, h2, h3, h4, h5, h6, h7, h8, h9⟩ := hs
    exact hP p e s m below meth c X y hy Gs f2 lv H locs ls st h1 h2 h3 h4 h5 h6 h7 h8 h9
/-- the bounds of an entry of V -/
def vbx (gi : List XI) (V : List XV) (j : Nat) : Option (Int × Int) := match V[j]? with
  | some x => match x with
    | .inl (.inl n) => xiv gi n
    | _ => none
  | none => none
theorem vbx_ok {E : XE} {xt : XX} {lo : Nat} {Gs : List Int} {gi : List XI} {V : List XV} {f : Nat → va_E} (hg : gok Gs gi) (hV : VOK E xt lo Gs V f) {j o k : Nat} {u w : Int} (hj : E.2.2.2[j]? = some (o, k)) (h : vbx gi V j = some (u, w)) : ∃ i : Int32, cellv (f (lo + o)) k = some (.int i) ∧ cv f (lo + o) k = i.toInt ∧ u ≤ i.toInt ∧ i.toInt ≤ w := by
  unfold vbx at h
  cases hx : V[j]? with
  | none => rw [hx] at h; cases h
  | some x =>
    rw [hx] at h
    obtain ⟨v, v1, v2⟩ := hV j o k x hj hx
    match x, h, v2 with
    | .inl (.inl n), h, ⟨i, e, q⟩ =>
      subst e
      have := xiv_ok hg h q
      exact ⟨i, v1, cv_of v1, this.1, this.2⟩
def ibx (P : XP) (o : Option (Int × Int)) : Bool := match o with
  | some (u, w) => inb P u w
  | none => false
/-- V's entries are within bounds -/
def vin (gi : List XI) (V : List XV) (ps : List XP) : Bool := (List.range ps.length).all (fun j => match ps[j]? with
  | some P => ibx P (vbx gi V j)
  | none => false)
theorem vin_ok {E : XE} {xt : XX} {lo : Nat} {Gs : List Int} {gi : List XI} {V : List XV} {ps : List XP} {f : Nat → va_E} (hg : gok Gs gi) (hV : VOK E xt lo Gs V f) (h : vin gi V ps = true) : VB E lo ps f := by
  intro j o k P hj hP
  have hlt : j < ps.length := (List.getElem?_eq_some_iff.mp hP).1
  have := List.all_eq_true.mp h j (List.mem_range.mpr hlt)
  rw [hP] at this
  simp only [ibx] at this
  cases hx : vbx gi V j with
  | none => rw [hx] at this; cases this
  | some q =>
    obtain ⟨u, w⟩ := q
    rw [hx] at this
    obtain ⟨a, b, e1, e2, e3⟩ := inb_ok this
    obtain ⟨i, v1, v2, v3, v4⟩ := vbx_ok hg hV hj hx
    exact ⟨i, a, b, v1, e1, by omega, by omega⟩
theorem LR_at {B : Nat → Nat → Prop} {Gs : List Int} : ∀ {L : List (Nat × XV)} {lv : List (Nat × Value)} {i : Nat} {x : XV}, LR B Gs L lv → xget L i = some x → ∃ v, (i, v) ∈ lv ∧ xok B Gs x v
  | (j, y) :: L, (j', v) :: lv, i, x, ⟨h1, h2, h3⟩, h => by
    subst h1
    simp only [xget] at h
    by_cases c : j = i
    · subst c
      rw [if_pos rfl] at h
      cases h
      exact ⟨v, List.mem_cons_self, h2⟩
    · rw [if_neg c] at h
      obtain ⟨v', a, b⟩ := LR_at h3 h
      exact ⟨v', List.mem_cons_of_mem _ a, b⟩
  | [], _, _, _, _, h => by simp [xget] at h
  | _ :: _, [], _, _, h, _ => by simp [LR] at h
/-! a run from a point on -/
theorem xend_9 {E : XE} {M : XM} {ins : Instr} {x : XC} : xend E M 9 ins x = false := by
  unfold xend
  split <;> rfl
theorem segGO {E : XE} {xt : XX} {D : va_G} {t : Nat → ClassId} {lo : Nat} {G0 : List Int} {f0 : Nat → va_E} {A : Nat → Prop} {p : Program} {l : Launch} {e : Env} {R : Room} {s : State} {m : MethodId} {args : Array Value} {below : List Frame} {meth : Method} {c : Code} {cells slots : Nat} {Q : State → Prop} {cc : ByteArray} {own : String} {nl : Nat} {ret : Option FieldType} {g : XG} {ys : List XY} {M : XM} {P : XC → Bool} {fuel : Nat} {x : XC} (X : CX p s m args meth c own cc nl ret) (hG : XGok l E xt D t lo own ys g) (hnl : g.2.1.1 = nl) (hRk : g.2.1.2 ≤ R.frames ∧ 60 * g.2.1.2 ≤ R.locals) (hRc : cells ≤ R.cells ∧ slots ≤ R.slots)
    (h : xrunN E g M 9 cc [] [] P none fuel x = true) (hP : ∀ y : XC, P y = true → GO E xt D t lo G0 f0 A nl p l e R s m args below meth c cells slots Q y) : GO E xt D t lo G0 f0 A nl p l e R s m args below meth c cells slots Q x := by
  have := xrunN_ok (fr := []) (G0 := G0) (old := none) X hG hnl hRk hRc (fun x ins len H locs ls st _ hx _ _ => by rw [xend_9] at hx; cases hx) hP (fun y ds d hf => by simp [nfind] at hf) fuel x h
  rw [List.append_nil] at this
  exact this
/-- a point: V's entries and locals within bounds -/
def pt (pc : Nat) (VC LP : List XP) : XC := (pc, (VC ++ LP).map xbd, xargs 0 VC.length LP, [], xvs 0 VC)
theorem SAT_pt {E : XE} {xt : XX} {D : va_G} {t : Nat → ClassId} {lo : Nat} {f0 f : Nat → va_E} {A : Nat → Prop} {s : State} {nl pc : Nat} {H : Heap} {locs : List Loc} {ls : Array Slot} {VC LP : List XP} {vs : List Value} {zs : List Int} (hl : E.2.2.2.length = VC.length) (hV : VB E lo VC f) (ha : AOK (xB E lo xt) LP vs zs) (hls : lv_has ls nl (lv_args 0 vs)) (hT : TYP E xt t lo f) (hF : FZ E xt lo f0 f) (hH : HX D t lo E.2.1.length f A s H locs) : SAT E xt D t lo (cvs E lo f ++ zs) f0 A s nl (pt pc VC LP) H locs ls [] := by
  have hA : AOK (xB E lo xt) VC (E.2.2.2.map (fun q => (cellv (f (lo + q.1)) q.2).getD (.int 0))) (cvs E lo f) := aok_vb _ _ hl hV
  have hlen := (AOK_len hA).1
  refine ⟨cvs E lo f ++ zs, f, lv_args 0 vs, ⟨[], by simp⟩, gok_ent (AOK_app hA ha), hls, LR_args 0 VC.length ha (fun j z hz => ?_), trivial, fun j o k x h1 h2 => ?_, hT, hF, hH⟩
  · rw [← hlen, List.getElem?_append_right (by omega), show (cvs E lo f).length + j - (cvs E lo f).length = j by omega]
    exact hz
  · obtain ⟨v, q1, q2⟩ := xvs_ok (G := cvs E lo f ++ zs) 0 hA (fun j z hz => by
      rw [Nat.zero_add, List.getElem?_append_left (List.getElem?_eq_some_iff.mp hz).1]
      exact hz) j x h2
    refine ⟨v, ?_, q2⟩
    rw [List.getElem?_map, h1] at q1
    simp only [Option.map_some, Option.some.injEq] at q1
    have hlt : j < VC.length := by rw [← hl]; exact (List.getElem?_eq_some_iff.mp h1).1
    obtain ⟨i, a, b, c1, -⟩ := hV j o k _ h1 (List.getElem?_eq_getElem hlt)
    rw [c1] at q1 ⊢
    exact congrArg some q1
/-- the bounds of a local -/
def lbx (gi : List XI) (L : List (Nat × XV)) (i : Nat) : Option (Int × Int) := match xget L i with
  | some x => match x with
    | .inl (.inl n) => xiv gi n
    | _ => none
  | none => none
def b1 (a b : Int) (o : Option (Int × Int)) : Bool := match o with
  | some (u, w) => decide (a ≤ u) && decide (w ≤ b)
  | none => false
theorem lbx_ok {B : Nat → Nat → Prop} {Gs : List Int} {gi : List XI} {L : List (Nat × XV)} {lv : List (Nat × Value)} {i : Nat} {a b : Int} (hg : gok Gs gi) (hL : LR B Gs L lv) (h : b1 a b (lbx gi L i) = true) : ∃ x : Int32, (i, .int x) ∈ lv ∧ a ≤ x.toInt ∧ x.toInt ≤ b := by
  unfold b1 lbx at h
  cases hx : xget L i with
  | none => rw [hx] at h; cases h
  | some x =>
    rw [hx] at h
    obtain ⟨v, v1, v2⟩ := LR_at hL hx
    match x, h, v2 with
    | .inl (.inl n), h, ⟨k, e, q⟩ =>
      subst e
      simp only at h
      cases hn : xiv gi n with
      | none => rw [hn] at h; cases h
      | some uw =>
        obtain ⟨u, w⟩ := uw
        rw [hn] at h
        simp only [Bool.and_eq_true, decide_eq_true_eq] at h
        have := xiv_ok hg hn q
        exact ⟨k, v1, by omega, by omega⟩
theorem b1_ok {E : XE} {xt : XX} {lo : Nat} {Gs : List Int} {gi : List XI} {V : List XV} {f : Nat → va_E} (hg : gok Gs gi) (hV : VOK E xt lo Gs V f) {j o k : Nat} {a b : Int} (hj : E.2.2.2[j]? = some (o, k)) (h : b1 a b (vbx gi V j) = true) : a ≤ cv f (lo + o) k ∧ cv f (lo + o) k ≤ b := by
  unfold b1 at h
  cases hx : vbx gi V j with
  | none => rw [hx] at h; cases h
  | some q =>
    obtain ⟨u, w⟩ := q
    rw [hx] at h
    simp only [Bool.and_eq_true, decide_eq_true_eq] at h
    obtain ⟨i, v1, v2, v3, v4⟩ := vbx_ok hg hV hj hx
    omega
def isR (k : Nat) (o : Option XV) : Bool := match o with
  | some x => match x with
    | .inr (.inl j) => j == k
    | _ => false
  | none => false
theorem isR_ok {k : Nat} {o : Option XV} (h : isR k o = true) : o = some (.inr (.inl k)) := by
  unfold isR at h
  cases o with
  | none => cases h
  | some x =>
    match x, h with
    | .inr (.inl j), h =>
      simp only [beq_iff_eq] at h
      rw [h]
theorem KP_tr {lo : Nat} {f f2 f3 : Nat → va_E} (h : KP lo f f2) (h2 : KP lo f2 f3) : KP lo f f3 := ⟨fun k hk => (h2.1 k hk).trans (h.1 k hk), fun k hk => (h2.2.1 k hk).trans (h.2.1 k hk), fun k hk => (h2.2.2 k hk).trans (h.2.2 k hk)⟩
