/-! runs between nodes -/
def xhint : List (Nat × Nat) → Nat → Option Nat
  | [], _ => none
  | (p, i) :: r, pc => if p = pc then some i else xhint r pc
/-- a local, told apart into constants -/
def xspl (hs : List (Nat × Nat)) (y : XC) : List XC := match xhint hs y.1 with
  | none => [y]
  | some i => match y with
    | (pc, gi, L, S, V) => match xget L i with
      | some (.inl (.inl n)) => match xiv gi n with
        | some (a, b) => if a = b then [y] else (List.range (b - a + 1).toNat).filterMap (fun (k : Nat) => (xcutR gi n (a + (k : Int)) (a + (k : Int))).map (fun g => (pc, g, (i, .inl (.inl (none, a + (k : Int)))) :: L, S, V)))
        | none => [y]
      | _ => [y]
def nfind : List XD → Nat → Option XD
  | [], _ => none
  | d :: r, pc => if d.1 = pc then some d else nfind r pc
theorem nfind_in : ∀ {N : List XD} {pc : Nat} {d : XD}, nfind N pc = some d → d ∈ N ∧ d.1 = pc
  | d' :: r, pc, d, h => by
    simp only [nfind] at h
    by_cases c : d'.1 = pc
    · rw [if_pos c] at h
      cases h
      exact ⟨List.mem_cons_self, c⟩
    · rw [if_neg c] at h
      exact ⟨List.mem_cons_of_mem _ (nfind_in h).1, (nfind_in h).2⟩
noncomputable def xrunN (E : XE) (g : XG) (M : XM) (rt : Nat) (cc : ByteArray) (N : List XD) (hs : List (Nat × Nat)) (old : Option XLf) (fuel : Nat) : XC → Bool := Nat.rec (motive := fun _ => XC → Bool) (fun _ => false) (fun _ ih x => nforce x.1 (fun pc => match decode cc pc with
  | .ok (ins, len) => if xend E M rt ins (pc, x.2) = true then decide (len = 1) else (match xstep E g ins len (pc, x.2) with
    | some ys => ys.all (fun y => match nfind N y.1 with
      | some d => narr E (M.1.length + M.2.1.length) old d y
      | none => (xspl hs y).all ih)
    | none => false)
  | .error _ => false)) fuel
def NSAT (E : XE) (xt : Nat → Nat → Prop) (D : va_G) (t : Nat → ClassId) (lo : Nat) (G0 : List Int) (f0 : Nat → va_E) (A : Nat → Prop) (s : State) (nl : Nat) (d : XD) (z : Int) (H : Heap) (locs : List Loc) (ls : Array Slot) (st : List Value) : Prop :=
  st = [] ∧ (∀ (g : Nat) (u w y : Int), d.2.1[g]? = some (u, w) → G0[g]? = some y → u ≤ y ∧ y ≤ w) ∧ ∃ (f : Nat → va_E) (vs : List Value), lv_has ls nl ((d.2.2.1.map (·.1)).zip vs) ∧ ROK (xB E lo xt) G0 (d.2.2.1.map (·.2) ++ d.2.2.2.1) vs ∧ TRV E lo f (vs.drop d.2.2.1.length) ∧ TYP E xt t lo f ∧ FZ E lo f0 f ∧ HX D t lo E.2.1.length f A s H locs ∧ rrel (G0 ++ vs.map gv) d.2.2.2.2.2.2 ∧ z = d.2.2.2.2.1 + msum d.2.2.2.2.2.1 vs
theorem LR_zip {B : Nat → Nat → Prop} {Gs : List Int} : ∀ {xs : List XV} {vs : List Value} (ss : List Nat), SR B Gs xs vs → LR B Gs (ss.zip xs) (ss.zip vs)
  | [], [], ss, _ => by simp [LR]
  | x :: xs, v :: vs, [], _ => trivial
  | x :: xs, v :: vs, a :: ss, ⟨h1, h2⟩ => ⟨rfl, h1, LR_zip ss h2⟩
theorem SR_drop {B : Nat → Nat → Prop} {Gs : List Int} : ∀ {xs : List XV} {vs : List Value} (k : Nat), SR B Gs xs vs → SR B Gs (xs.drop k) (vs.drop k)
  | xs, vs, 0, h => h
  | [], [], k + 1, _ => trivial
  | x :: xs, v :: vs, k + 1, ⟨_, h⟩ => SR_drop k h
section XV
variable {E : XE} {xt : Nat → Nat → Prop} {D : va_G} {t : Nat → ClassId} {lo : Nat} {G0 : List Int} {f0 : Nat → va_E} {A : Nat → Prop}
variable {p : Program} {l : Launch} {e : Env} {R : Room} {s : State} {m : MethodId} {args : Array Value} {below : List Frame} {meth : Method} {c : Code} {H : Heap} {locs : List Loc} {cells slots : Nat} {Q : State → Prop}
variable {cc : ByteArray} {own : String} {nl : Nat} {ret : Option FieldType} {ls : Array Slot} {st : List Value} {x : XC} {xs : List XC} {ins : Instr} {pc : Nat}
theorem xspl_ok {hs : List (Nat × Nat)} {y : XC} (kk : ∀ y' ∈ xspl hs y, GO E xt D t lo G0 f0 A nl p l e R s m args below meth c cells slots Q y') : GO E xt D t lo G0 f0 A nl p l e R s m args below meth c cells slots Q y := by
  unfold xspl at kk
  split at kk
  · exact kk y List.mem_cons_self
  · rename_i i _
    obtain ⟨pc, gi, L, S, V⟩ := y
    simp only at kk
    split at kk
    · rename_i n hn
      split at kk
      · rename_i a b hx
        split at kk
        · exact kk _ List.mem_cons_self
        · intro H locs ls st hs
          obtain ⟨Gs, f, lv, hr0, hg, hl, hL, hS, hV, hT, hZ, hH⟩ := hs
          obtain ⟨k, v, a1, ⟨w, rfl, a3⟩⟩ := xget_ok hL hn
          obtain ⟨b1, b2⟩ := xiv_ok hg hx a3
          have ek : a + ((w.toInt - a).toNat : Int) = w.toInt := by omega
          obtain ⟨g', g1, g2⟩ := xcutR_ok (lo := w.toInt) (hi := w.toInt) hg hx a3 (Int.le_refl _) (Int.le_refl _)
          refine kk (pc, g', (i, .inl (.inl (none, w.toInt))) :: L, S, V) (List.mem_filterMap.mpr ⟨(w.toInt - a).toNat, List.mem_range.mpr (by omega), by rw [ek, g1]; rfl⟩) H locs ls st ⟨Gs, f, (i, .int w) :: lv, hr0, g2, ⟨hl.1, hl.2.1, fun q hq => ?_⟩, ⟨rfl, ⟨w, rfl, rfl⟩, hL⟩, hS, hV, hT, hZ, hH⟩
          rcases List.mem_cons.mp hq with rfl | hq
          · exact lv_at hl k a1
          · exact hl.2.2 q hq
      · exact kk _ List.mem_cons_self
    · exact kk _ List.mem_cons_self
theorem SAT_pre {fr : List Int} (h : SAT E xt D t lo (G0 ++ fr) f0 A s nl x H locs ls st) : SAT E xt D t lo G0 f0 A s nl x H locs ls st := by
  obtain ⟨Gs, f, lv, ⟨r, hr⟩, rest⟩ := h
  exact ⟨Gs, f, lv, ⟨fr ++ r, by rw [hr, List.append_assoc]⟩, rest⟩
theorem narr_ok {nE : Nat} {old : Option XLf} {d : XD} {fr : List Int} {zo : Int} (hE : G0.length = nE) (h : narr E nE old d x = true) (ho : ∀ F, old = some F → ∀ r, lev' (G0 ++ fr ++ r) F = zo) (hs : SAT E xt D t lo (G0 ++ fr) f0 A s nl x H locs ls st) : ∃ z, NSAT E xt D t lo G0 f0 A s nl d z H locs ls st ∧ (old ≠ none → z < zo ∧ 1 ≤ zo) := by
  subst hE
  obtain ⟨pc, gi, L, S, V⟩ := x
  obtain ⟨Gs, f, lv, ⟨r, rfl⟩, hg, hl, hL, hS, hV, hT, hZ, hH⟩ := hs
  simp only [narr, Bool.and_eq_true, decide_eq_true_eq, List.isEmpty_iff] at h
  obtain ⟨⟨⟨h1, h2⟩, h3⟩, h4⟩ := h
  simp only at hg hl hL hS hV
  subst h1
  cases h5 : nvals L d.2.2.1 with
  | none => rw [h5] at h4; cases h4
  | some ys =>
    rw [h5] at h4
    simp only [Bool.and_eq_true] at h4
    obtain ⟨⟨h6, h6'⟩, h7⟩ := h4
    obtain ⟨lvs, n1, n2, n3⟩ := nvals_ok hL h5
    obtain ⟨vv, v1, v2⟩ := VOK_vals hV h3
    have hall := SR_app n1 v1
    rw [List.append_assoc] at hg hall
    refine ⟨d.2.2.2.2.1 + msum d.2.2.2.2.2.1 (lvs ++ vv), ⟨?_, ?_, f, lvs ++ vv, ⟨hl.1, hl.2.1, fun q hq => hl.2.2 q (n3 vv q hq)⟩, xretL_ok hg h6 hall, ?_, hT, hZ, hH, xrch_ok hg (NR_app NR_id (NR_SR hall)) h6', rfl⟩, ?_⟩
    · match st, hS with
      | [], _ => rfl
    · intro g u w y a b
      obtain ⟨l1, h1', r1, q1, q2, q3⟩ := xcovs_ok h2 a
      have hlt : g < G0.length := (List.getElem?_eq_some_iff.mp b).1
      have := hg.2 g l1 h1' r1 y q1 (by rw [List.getElem?_append_left hlt]; exact b)
      omega
    · rw [← n2, List.drop_left]
      exact v2
    · intro hold
      cases old with
      | none => exact absurd rfl hold
      | some F =>
        simp only [Bool.and_eq_true] at h7
        obtain ⟨h7, h8⟩ := h7
        have hF := ho F rfl r
        rw [List.append_assoc] at hF
        have q1 := lle_ok hg h7
        rw [lneg_ok, hF] at q1
        cases h9 : lms 1 d.2.2.2.2.2.1 (ys ++ V) ((lneg F).1, (lneg F).2 + d.2.2.2.2.1) with
        | none => rw [h9] at h8; cases h8
        | some F' =>
          rw [h9] at h8
          have q2 := lle_ok hg h8
          rw [lms_ok h9 hall] at q2
          have q3 : lev' (G0 ++ (fr ++ r)) (lneg F) = - zo := by rw [lneg_ok, hF]
          simp only [lev'] at q2 q3
          omega
theorem npt_ok {nE : Nat} {d : XD} {x0 : XC} {F : XLf} {z : Int} (hE : G0.length = nE) (hd : d.2.1.length = nE) (h : npt nE d = some (x0, F)) (hs : NSAT E xt D t lo G0 f0 A s nl d z H locs ls st) : x0.1 = d.1 ∧ ∃ fr, SAT E xt D t lo (G0 ++ fr) f0 A s nl x0 H locs ls st ∧ ∀ r, lev' (G0 ++ fr ++ r) F = z := by
  obtain ⟨rfl, hb, f, vs, hl, hR, hv, hT, hZ, hH, hrel, hz⟩ := hs
  unfold npt at h
  cases h1 : nmakes nE (d.2.1.map (fun q => (q.1, q.2, []))) (d.2.2.1.map (·.2) ++ d.2.2.2.1) with
  | none => rw [h1] at h; cases h
  | some q =>
    obtain ⟨gi, xs⟩ := q
    rw [h1] at h
    simp only at h
    cases h2 : lms 1 d.2.2.2.2.2.1 xs ([], d.2.2.2.2.1) with
    | none => rw [h2] at h; cases h
    | some F' =>
      rw [h2] at h
      simp only at h
      have hg0 : gok (G0 ++ []) (d.2.1.map (fun q => (q.1, q.2, ([] : List XJ)))) := by
        rw [List.append_nil]
        refine ⟨by rw [List.length_map, hE, hd], fun i lo' hi' r y a b => ?_⟩
        rw [List.getElem?_map] at a
        cases hq : d.2.1[i]? with
        | none => rw [hq] at a; cases a
        | some q =>
          obtain ⟨u, w⟩ := q
          rw [hq] at a
          simp only [Option.map_some, Option.some.injEq, Prod.mk.injEq] at a
          obtain ⟨rfl, rfl, rfl⟩ := a
          have := hb i _ _ y hq b
          exact ⟨this.1, this.2, fun u hu => absurd hu List.not_mem_nil⟩
      obtain ⟨fr, t1, t2⟩ := nmakes_ok h1 hg0 hR
      rw [List.nil_append] at t1 t2
      obtain ⟨gi', g1, g2⟩ := xrrc_ok (R := d.2.2.2.2.2.2) (NR_app (NR_id (G0 := G0) (r := fr)) (NR_SR t2)) t1 hrel
      rw [hE] at g1
      rw [g1] at h
      simp only [Option.some.injEq, Prod.mk.injEq] at h
      obtain ⟨rfl, rfl⟩ := h
      refine ⟨rfl, fr, ⟨G0 ++ fr, f, _, ⟨[], by simp⟩, g2, hl, LR_zip _ t2, trivial, ?_, hT, hZ, hH⟩, fun r => ?_⟩
      · intro j o k y a b
        obtain ⟨v, q1, q2⟩ := SR_at (SR_drop d.2.2.1.length t2) b
        exact ⟨v, hv j o k v a q1, q2⟩
      · rw [lms_ok h2 (SR_mono t2), hz]
        simp [lev', lev]
theorem xrunN_ok {g : XG} {ys : List XY} {M : XM} {rt : Nat} {N : List XD} {hs : List (Nat × Nat)} {old : Option XLf} {fr : List Int} (X : CX p s m args meth c own cc nl ret) (hrt : RTok rt ret) (hE : G0.length = M.1.length + M.2.1.length) (hG : XGok l E xt D t lo own ys g) (hnl : g.2.1.1 = nl) (hRk : g.2.1.2 ≤ R.frames ∧ 60 * g.2.1.2 ≤ R.locals) (hRc : cells ≤ R.cells ∧ slots ≤ R.slots)
    (hN : ∀ (y : XC) (d : XD), nfind N y.1 = some d → narr E (M.1.length + M.2.1.length) old d y = true → GO E xt D t lo (G0 ++ fr) f0 (px_A lo E.2.1.length) nl p l e R s m args below meth c cells slots (MQ below (QcX E xt D t lo M G0 f0) args s cells slots (px_A lo E.2.1.length)) y) : ∀ (fuel : Nat) (x : XC), xrunN E g M rt cc N hs old fuel x = true → GO E xt D t lo (G0 ++ fr) f0 (px_A lo E.2.1.length) nl p l e R s m args below meth c cells slots (MQ below (QcX E xt D t lo M G0 f0) args s cells slots (px_A lo E.2.1.length)) x := by
  intro fuel
  induction fuel with
  | zero => intro x h; cases h
  | succ n ih =>
    intro x h H locs ls st hst
    have e1 : xrunN E g M rt cc N hs old (n + 1) x = nforce x.1 (fun pc => match decode cc pc with
      | .ok (ins, len) => if xend E M rt ins (pc, x.2) = true then decide (len = 1) else (match xstep E g ins len (pc, x.2) with
        | some ys => ys.all (fun y => match nfind N y.1 with
          | some d => narr E (M.1.length + M.2.1.length) old d y
          | none => (xspl hs y).all (xrunN E g M rt cc N hs old n))
        | none => false)
      | .error _ => false) := rfl
    rw [e1, nforce_eq] at h
    cases hd : decode cc x.1 with
    | error _ => rw [hd] at h; cases h
    | ok r =>
      obtain ⟨ins, len⟩ := r
      rw [hd] at h
      simp only at h
      by_cases c1 : xend E M rt ins (x.1, x.2) = true
      · rw [if_pos c1] at h
        exact xend_ok X hrt hE hd c1 (of_decide_eq_true h) (SAT_pre hst)
      · rw [if_neg c1] at h
        cases h2 : xstep E g ins len (x.1, x.2) with
        | none => rw [h2] at h; cases h
        | some zs =>
          rw [h2] at h
          refine xstep_ok X hG hnl hRk hRc hd h2 hst (fun y hy => ?_)
          have hy' := List.all_eq_true.mp h y hy
          cases h3 : nfind N y.1 with
          | some d =>
            rw [h3] at hy'
            exact hN y d h3 hy'
          | none =>
            rw [h3] at hy'
            exact xspl_ok (fun y' hy2 => ih y' (List.all_eq_true.mp hy' y' hy2))
noncomputable def nchk (E : XE) (g : XG) (M : XM) (rt : Nat) (cc : ByteArray) (N : List XD) (hs : List (Nat × Nat)) (fuel : Nat) (d : XD) : Bool := decide (d.2.1.length = M.1.length + M.2.1.length) && (match npt (M.1.length + M.2.1.length) d with
  | some (x, F) => (xspl hs x).all (xrunN E g M rt cc N hs (some F) fuel)
  | none => false)
theorem nodes_ok {g : XG} {ys : List XY} {M : XM} {rt : Nat} {N : List XD} {hs : List (Nat × Nat)} {fuel : Nat} (X : CX p s m args meth c own cc nl ret) (hrt : RTok rt ret) (hE : G0.length = M.1.length + M.2.1.length) (hG : XGok l E xt D t lo own ys g) (hnl : g.2.1.1 = nl) (hRk : g.2.1.2 ≤ R.frames ∧ 60 * g.2.1.2 ≤ R.locals) (hRc : cells ≤ R.cells ∧ slots ≤ R.slots) (hc : N.all (nchk E g M rt cc N hs fuel) = true) : ∀ (k : Nat) (d : XD) (z : Int) (H : Heap) (locs : List Loc) (ls : Array Slot) (st : List Value), d ∈ N → z.toNat < k → NSAT E xt D t lo G0 f0 (px_A lo E.2.1.length) s nl d z H locs ls st → W p l e R s m args below meth c H locs cells slots (MQ below (QcX E xt D t lo M G0 f0) args s cells slots (px_A lo E.2.1.length)) (F0 m d.1 ls st) := by
  intro k
  induction k with
  | zero => intro d z H locs ls st _ h; omega
  | succ k ih =>
    intro d z H locs ls st hd hz hs'
    have hcd := List.all_eq_true.mp hc d hd
    simp only [nchk, Bool.and_eq_true, decide_eq_true_eq] at hcd
    obtain ⟨c1, c2⟩ := hcd
    cases h1 : npt (M.1.length + M.2.1.length) d with
    | none => rw [h1] at c2; cases c2
    | some q =>
      obtain ⟨x0, F⟩ := q
      rw [h1] at c2
      simp only at c2
      obtain ⟨e1, fr, hS, hF⟩ := npt_ok hE c1 h1 hs'
      rw [← e1]
      refine xspl_ok (G0 := G0 ++ fr) (fun y' hy => xrunN_ok (old := some F) X hrt hE hG hnl hRk hRc ?_ fuel y' (List.all_eq_true.mp c2 y' hy)) H locs ls st hS
      intro y d' hf ha H' locs' ls' st' hS'
      obtain ⟨z', n1, n2⟩ := narr_ok (zo := z) hE ha (fun F' hF' r => by cases hF'; exact hF r) hS'
      have n3 := n2 (by simp)
      obtain ⟨m1, m2⟩ := nfind_in hf
      rw [← m2]
      exact ih d' z' H' locs' ls' st' m1 (by omega) n1
end XV
