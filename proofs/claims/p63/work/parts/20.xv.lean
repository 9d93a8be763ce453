/-! runs between nodes -/
def xhint : List (Nat × Nat) → Nat → Option Nat
  | [], _ => none
  | (p, i) :: r, pc => if p = pc then some i else xhint r pc
/-- a local, or an entry of V (from 1000 on), told apart into constants -/
def xspl (hs : List (Nat × Nat)) (y : XC) : List XC := match xhint hs y.1 with
  | none => [y]
  | some i => match y with
    | (pc, gi, L, S, V) => if i < 1000 then (match xget L i with
      | some (.inl (.inl n)) => if n.1 = none then [y] else (match xiv gi n with
        | some (a, b) => (List.range (b - a + 1).toNat).filterMap (fun (k : Nat) => (xcutR gi n (a + (k : Int)) (a + (k : Int))).map (fun g => (pc, g, (i, .inl (.inl (none, a + (k : Int)))) :: L, S, V)))
        | none => [y])
      | _ => [y]) else (match V[i - 1000]? with
      | some (.inl (.inl n)) => if n.1 = none then [y] else (match xiv gi n with
        | some (a, b) => (List.range (b - a + 1).toNat).filterMap (fun (k : Nat) => (xcutR gi n (a + (k : Int)) (a + (k : Int))).map (fun g => (pc, g, L, S, V.set (i - 1000) (.inl (.inl (none, a + (k : Int)))))))
        | none => [y])
      | _ => [y])
/-- nodes by their places -/
def nfind : List (Nat × List XD) → Nat → Option (List XD)
  | [], _ => none
  | (q, ds) :: r, pc => if q = pc then some ds else nfind r pc
theorem nfind_in : ∀ {N : List (Nat × List XD)} {pc : Nat} {ds : List XD}, nfind N pc = some ds → (pc, ds) ∈ N
  | (q, ds') :: r, pc, ds, h => by
    simp only [nfind] at h
    by_cases c : q = pc
    · rw [if_pos c] at h
      cases h
      subst c
      exact List.mem_cons_self
    · rw [if_neg c] at h
      exact List.mem_cons_of_mem _ (nfind_in h)
/-- an arrival: at a node, or the run goes on -/
def narrs (E : XE) (nE : Nat) (N : List (Nat × List XD)) (old : Option XLf) (ih : XC → Bool) (z : XC) : Bool := match nfind N z.1 with
  | some ds => ds.any (fun d => d.1 == z.1 && narr E nE old d z)
  | none => ih z
noncomputable def xrunN (E : XE) (g : XG) (M : XM) (rt : Nat) (cc : ByteArray) (N : List (Nat × List XD)) (hs : List (Nat × Nat)) (P : XC → Bool) (old : Option XLf) (fuel : Nat) : XC → Bool := Nat.rec (motive := fun _ => XC → Bool) (fun _ => false) (fun _ ih x => nforce x.1 (fun pc => if P (pc, x.2) = true then true else match decode cc pc with
  | .ok (ins, len) => if xend E M rt ins (pc, x.2) = true then decide (len = 1) else (match xstep E g ins len (pc, x.2) with
    | some ys => ys.all (fun y => (xspl hs y).all (narrs E (M.1.length + M.2.1.length) N old ih))
    | none => false)
  | .error _ => false)) fuel
def NSAT (E : XE) (xt : XX) (D : va_G) (t : Nat → ClassId) (lo : Nat) (G0 : List Int) (f0 : Nat → va_E) (A : Nat → Prop) (s : State) (nl : Nat) (d : XD) (z : Int) (H : Heap) (locs : List Loc) (ls : Array Slot) (st : List Value) : Prop :=
  st = [] ∧ (∀ (g : Nat) (u w y : Int), d.2.1[g]? = some (u, w) → G0[g]? = some y → u ≤ y ∧ y ≤ w) ∧ ∃ (f : Nat → va_E) (vs : List Value), lv_has ls nl ((d.2.2.1.map (·.1)).zip vs) ∧ ROK (xB E lo xt) G0 (d.2.2.1.map (·.2) ++ d.2.2.2.1) vs ∧ TRV E lo f (vs.drop d.2.2.1.length) ∧ TYP E xt t lo f ∧ FZ E xt lo f0 f ∧ HX D t lo E.2.1.length f A s H locs ∧ rrel (G0 ++ vs.map gv) d.2.2.2.2.2.2 ∧ z = d.2.2.2.2.1 + msum d.2.2.2.2.2.1 vs
theorem LR_zip {B : Nat → Nat → Prop} {Gs : List Int} : ∀ {xs : List XV} {vs : List Value} (ss : List Nat), SR B Gs xs vs → LR B Gs (ss.zip xs) (ss.zip vs)
  | [], [], ss, _ => by simp [LR]
  | x :: xs, v :: vs, [], _ => trivial
  | x :: xs, v :: vs, a :: ss, ⟨h1, h2⟩ => ⟨rfl, h1, LR_zip ss h2⟩
theorem SR_drop {B : Nat → Nat → Prop} {Gs : List Int} : ∀ {xs : List XV} {vs : List Value} (k : Nat), SR B Gs xs vs → SR B Gs (xs.drop k) (vs.drop k)
  | xs, vs, 0, h => h
  | [], [], k + 1, _ => trivial
  | x :: xs, v :: vs, k + 1, ⟨_, h⟩ => SR_drop k h
section XV
variable {E : XE} {xt : XX} {D : va_G} {t : Nat → ClassId} {lo : Nat} {G0 : List Int} {f0 : Nat → va_E} {A : Nat → Prop}
variable {p : Program} {l : Launch} {e : Env} {R : Room} {s : State} {m : MethodId} {args : Array Value} {below : List Frame} {meth : Method} {c : Code} {H : Heap} {locs : List Loc} {cells slots : Nat} {Q : State → Prop}
variable {cc : ByteArray} {own : String} {nl : Nat} {ret : Option FieldType} {ls : Array Slot} {st : List Value} {x : XC} {xs : List XC} {ins : Instr} {pc : Nat}
theorem xspl_ok {hs : List (Nat × Nat)} {y : XC} (kk : ∀ y' ∈ xspl hs y, GO E xt D t lo G0 f0 A nl p l e R s m args below meth c cells slots Q y') : GO E xt D t lo G0 f0 A nl p l e R s m args below meth c cells slots Q y := by
  unfold xspl at kk
  split at kk
  · exact kk y List.mem_cons_self
  · rename_i i _
    obtain ⟨pc, gi, L, S, V⟩ := y
    simp only at kk
    split at kk
    · split at kk
      · rename_i n hn
        split at kk
        · exact kk _ List.mem_cons_self
        · split at kk
          · rename_i a b hx
            intro H locs ls st hs
            obtain ⟨Gs, f, lv, hr0, hg, hl, hL, hS, hV, hT, hZ, hH⟩ := hs
            obtain ⟨k, v, a1, ⟨w, rfl, a3⟩⟩ := xget_ok hL hn
            obtain ⟨b1, b2⟩ := xiv_ok hg hx a3
            have ek : a + ((w.toInt - a).toNat : Int) = w.toInt := by omega
            obtain ⟨g', g1, g2⟩ := xcutR_ok (lo := w.toInt) (hi := w.toInt) hg hx a3 (Int.le_refl _) (Int.le_refl _)
            refine kk (pc, g', (i, .inl (.inl (none, w.toInt))) :: L, S, V) (List.mem_filterMap.mpr ⟨(w.toInt - a).toNat, List.mem_range.mpr (by omega), by rw [ek, g1]; rfl⟩) H locs ls st ⟨Gs, f, (i, .int w) :: lv, hr0, g2, ⟨hl.1, hl.2.1, fun q hq => ?_⟩, ⟨rfl, ⟨w, rfl, rfl⟩, hL⟩, hS, hV, hT, hZ, hH⟩
            rcases List.mem_cons.mp hq with rfl | hq
            · exact lv_at hl k a1
            · exact hl.2.2 q hq
          · exact kk _ List.mem_cons_self
      · exact kk _ List.mem_cons_self
    · split at kk
      · rename_i n hn
        split at kk
        · exact kk _ List.mem_cons_self
        · split at kk
          · rename_i a b hx
            intro H locs ls st hs
            by_cases hj : ∃ o k, E.2.2.2[i - 1000]? = some (o, k)
            · obtain ⟨o, k, hj⟩ := hj
              obtain ⟨Gs, f, lv, hr0, hg, hl, hL, hS, hV, hT, hZ, hH⟩ := hs
              obtain ⟨v, a1, ⟨w, rfl, a3⟩⟩ := hV _ o k _ hj hn
              obtain ⟨b1, b2⟩ := xiv_ok hg hx a3
              have ek : a + ((w.toInt - a).toNat : Int) = w.toInt := by omega
              obtain ⟨g', g1, g2⟩ := xcutR_ok (lo := w.toInt) (hi := w.toInt) hg hx a3 (Int.le_refl _) (Int.le_refl _)
              refine kk (pc, g', L, S, V.set (i - 1000) (.inl (.inl (none, w.toInt)))) (List.mem_filterMap.mpr ⟨(w.toInt - a).toNat, List.mem_range.mpr (by omega), by rw [ek, g1]; rfl⟩) H locs ls st ⟨Gs, f, lv, hr0, g2, hl, hL, hS, fun j o' k' x' h1 h2 => ?_, hT, hZ, hH⟩
              by_cases cj : i - 1000 = j
              · subst cj
                rw [hj] at h1
                cases h1
                rw [List.getElem?_set, if_pos rfl, if_pos (List.getElem?_eq_some_iff.mp hn).1] at h2
                cases h2
                exact ⟨_, a1, w, rfl, rfl⟩
              · rw [List.getElem?_set, if_neg cj] at h2
                exact hV j o' k' x' h1 h2
            · obtain ⟨Gs, f, lv, hr0, hg, hl, hL, hS, hV, hT, hZ, hH⟩ := hs
              have hne : ∀ z0 : Int, ∀ j o' k' x', E.2.2.2[j]? = some (o', k') → (V.set (i - 1000) (.inl (.inl (none, z0))))[j]? = some x' → V[j]? = some x' := fun z0 j o' k' x' h1 h2 => by
                by_cases cj : i - 1000 = j
                · subst cj
                  exact absurd ⟨_, _, h1⟩ hj
                · rw [List.getElem?_set, if_neg cj] at h2
                  exact h2
              by_cases hv : ∃ z, xval Gs n = some z
              · obtain ⟨z, hv⟩ := hv
                obtain ⟨b1, b2⟩ := xiv_ok hg hx hv
                have ek : a + ((z - a).toNat : Int) = z := by omega
                obtain ⟨g', g1, g2⟩ := xcutR_ok (lo := z) (hi := z) hg hx hv (Int.le_refl _) (Int.le_refl _)
                exact kk (pc, g', L, S, V.set (i - 1000) (.inl (.inl (none, z)))) (List.mem_filterMap.mpr ⟨(z - a).toNat, List.mem_range.mpr (by omega), by rw [ek, g1]; rfl⟩) H locs ls st ⟨Gs, f, lv, hr0, g2, hl, hL, hS, fun j o' k' x' h1 h2 => hV j o' k' x' h1 (hne z j o' k' x' h1 h2), hT, hZ, hH⟩
              · exfalso
                apply hv
                obtain ⟨gg, cc⟩ := n
                cases gg with
                | none => exact ⟨_, rfl⟩
                | some gg =>
                  simp only [xiv] at hx
                  cases hq : gi[gg]? with
                  | none => rw [hq] at hx; cases hx
                  | some q =>
                    have hlt : gg < Gs.length := by rw [hg.1]; exact (List.getElem?_eq_some_iff.mp hq).1
                    exact ⟨_, by simp only [xval]; rw [List.getElem?_eq_getElem hlt]; rfl⟩
          · exact kk _ List.mem_cons_self
      · exact kk _ List.mem_cons_self
theorem SAT_pre {fr : List Int} (h : SAT E xt D t lo (G0 ++ fr) f0 A s nl x H locs ls st) : SAT E xt D t lo G0 f0 A s nl x H locs ls st := by
  obtain ⟨Gs, f, lv, ⟨r, hr⟩, rest⟩ := h
  exact ⟨Gs, f, lv, ⟨fr ++ r, by rw [hr, List.append_assoc]⟩, rest⟩
theorem narr_ok {nE : Nat} {old : Option XLf} {d : XD} {fr : List Int} {zo : Int} (hE : G0.length = nE) (h : narr E nE old d x = true) (ho : ∀ F, old = some F → ∀ r, lev' (G0 ++ fr ++ r) F = zo) (hs : SAT E xt D t lo (G0 ++ fr) f0 A s nl x H locs ls st) : ∃ z, NSAT E xt D t lo G0 f0 A s nl d z H locs ls st ∧ (old ≠ none → z < zo ∧ 1 ≤ zo) := by
  subst hE
  obtain ⟨pc, gi, L, S, V⟩ := x
  obtain ⟨Gs, f, lv, ⟨r, rfl⟩, hg, hl, hL, hS, hV, hT, hZ, hH⟩ := hs
  simp only [narr, Bool.and_eq_true, decide_eq_true_eq, List.isEmpty_iff] at h
  obtain ⟨⟨⟨h1, h2⟩, h3⟩, h4⟩ := h
  simp only at hg hl hL hS hV
  subst h1
  cases h5 : nvals L d.2.2.1 with
  | none => rw [h5] at h4; cases h4
  | some ys =>
    rw [h5] at h4
    simp only [Bool.and_eq_true] at h4
    obtain ⟨⟨h6, h6'⟩, h7⟩ := h4
    obtain ⟨lvs, n1, n2, n3⟩ := nvals_ok hL h5
    obtain ⟨vv, v1, v2⟩ := VOK_vals hV h3
    have hall := SR_app n1 v1
    rw [List.append_assoc] at hg hall
    refine ⟨d.2.2.2.2.1 + msum d.2.2.2.2.2.1 (lvs ++ vv), ⟨?_, ?_, f, lvs ++ vv, ⟨hl.1, hl.2.1, fun q hq => hl.2.2 q (n3 vv q hq)⟩, xretL_ok hg h6 hall, ?_, hT, hZ, hH, xrch_ok hg (NR_app NR_id (NR_SR hall)) h6', rfl⟩, ?_⟩
    · match st, hS with
      | [], _ => rfl
    · intro g u w y a b
      obtain ⟨l1, h1', r1, q1, q2, q3⟩ := xcovs_ok h2 a
      have hlt : g < G0.length := (List.getElem?_eq_some_iff.mp b).1
      have := hg.2 g l1 h1' r1 y q1 (by rw [List.getElem?_append_left hlt]; exact b)
      omega
    · rw [← n2, List.drop_left]
      exact v2
    · intro hold
      cases old with
      | none => exact absurd rfl hold
      | some F =>
        simp only [Bool.and_eq_true] at h7
        obtain ⟨h7, h8⟩ := h7
        have hF := ho F rfl r
        rw [List.append_assoc] at hF
        have q1 := lle_ok hg h7
        rw [lneg_ok, hF] at q1
        cases h9 : lms 1 d.2.2.2.2.2.1 (ys ++ V) ((lneg F).1, (lneg F).2 + d.2.2.2.2.1) with
        | none => rw [h9] at h8; cases h8
        | some F' =>
          rw [h9] at h8
          have q2 := lle_ok hg h8
          rw [lms_ok h9 hall] at q2
          have q3 : lev' (G0 ++ (fr ++ r)) (lneg F) = - zo := by rw [lneg_ok, hF]
          simp only [lev'] at q2 q3
          omega
theorem npt_ok {nE : Nat} {d : XD} {x0 : XC} {F : XLf} {z : Int} (hE : G0.length = nE) (hd : d.2.1.length = nE) (h : npt nE d = some (x0, F)) (hs : NSAT E xt D t lo G0 f0 A s nl d z H locs ls st) : x0.1 = d.1 ∧ ∃ fr, SAT E xt D t lo (G0 ++ fr) f0 A s nl x0 H locs ls st ∧ ∀ r, lev' (G0 ++ fr ++ r) F = z := by
  obtain ⟨rfl, hb, f, vs, hl, hR, hv, hT, hZ, hH, hrel, hz⟩ := hs
  unfold npt at h
  cases h1 : nmakes nE (d.2.1.map (fun q => (q.1, q.2, []))) (d.2.2.1.map (·.2) ++ d.2.2.2.1) with
  | none => rw [h1] at h; cases h
  | some q =>
    obtain ⟨gi, xs⟩ := q
    rw [h1] at h
    simp only at h
    cases h2 : lms 1 d.2.2.2.2.2.1 xs ([], d.2.2.2.2.1) with
    | none => rw [h2] at h; cases h
    | some F' =>
      rw [h2] at h
      simp only at h
      have hg0 : gok (G0 ++ []) (d.2.1.map (fun q => (q.1, q.2, ([] : List XJ)))) := by
        rw [List.append_nil]
        refine ⟨by rw [List.length_map, hE, hd], fun i lo' hi' r y a b => ?_⟩
        rw [List.getElem?_map] at a
        cases hq : d.2.1[i]? with
        | none => rw [hq] at a; cases a
        | some q =>
          obtain ⟨u, w⟩ := q
          rw [hq] at a
          simp only [Option.map_some, Option.some.injEq, Prod.mk.injEq] at a
          obtain ⟨rfl, rfl, rfl⟩ := a
          have := hb i _ _ y hq b
          exact ⟨this.1, this.2, fun u hu => absurd hu List.not_mem_nil⟩
      obtain ⟨fr, t1, t2⟩ := nmakes_ok h1 hg0 hR
      rw [List.nil_append] at t1 t2
      obtain ⟨gi', g1, g2⟩ := xrrc_ok (R := d.2.2.2.2.2.2) (NR_app (NR_id (G0 := G0) (r := fr)) (NR_SR t2)) t1 hrel
      rw [hE] at g1
      rw [g1] at h
      simp only [Option.some.injEq, Prod.mk.injEq] at h
      obtain ⟨rfl, rfl⟩ := h
      refine ⟨rfl, fr, ⟨G0 ++ fr, f, _, ⟨[], by simp⟩, g2, hl, LR_zip _ t2, trivial, ?_, hT, hZ, hH⟩, fun r => ?_⟩
      · intro j o k y a b
        obtain ⟨v, q1, q2⟩ := SR_at (SR_drop d.2.2.1.length t2) b
        exact ⟨v, hv j o k v a q1, q2⟩
      · rw [lms_ok h2 (SR_mono t2), hz]
        simp [lev', lev]
theorem xrunN_ok {g : XG} {ys : List XY} {M : XM} {rt : Nat} {N : List (Nat × List XD)} {hs : List (Nat × Nat)} {P : XC → Bool} {old : Option XLf} {fr : List Int} (X : CX p s m args meth c own cc nl ret) (hG : XGok l E xt D t lo own ys g) (hnl : g.2.1.1 = nl) (hRk : g.2.1.2 ≤ R.frames ∧ 60 * g.2.1.2 ≤ R.locals) (hRc : cells ≤ R.cells ∧ slots ≤ R.slots)
    (hend : ∀ (x : XC) (ins : Instr) (len : Nat) (H : Heap) (locs : List Loc) (ls : Array Slot) (st : List Value), decode cc x.1 = .ok (ins, len) → xend E M rt ins x = true → len = 1 → SAT E xt D t lo G0 f0 A s nl x H locs ls st → W p l e R s m args below meth c H locs cells slots Q (F0 m x.1 ls st))
    (hP : ∀ y : XC, P y = true → GO E xt D t lo G0 f0 A nl p l e R s m args below meth c cells slots Q y)
    (hN : ∀ (y : XC) (ds : List XD) (d : XD), nfind N y.1 = some ds → d ∈ ds → d.1 = y.1 → narr E (M.1.length + M.2.1.length) old d y = true → GO E xt D t lo (G0 ++ fr) f0 A nl p l e R s m args below meth c cells slots Q y) : ∀ (fuel : Nat) (x : XC), xrunN E g M rt cc N hs P old fuel x = true → GO E xt D t lo (G0 ++ fr) f0 A nl p l e R s m args below meth c cells slots Q x := by
  intro fuel
  induction fuel with
  | zero => intro x h; cases h
  | succ n ih =>
    intro x h H locs ls st hst
    have e1 : xrunN E g M rt cc N hs P old (n + 1) x = nforce x.1 (fun pc => if P (pc, x.2) = true then true else match decode cc pc with
      | .ok (ins, len) => if xend E M rt ins (pc, x.2) = true then decide (len = 1) else (match xstep E g ins len (pc, x.2) with
        | some ys => ys.all (fun y => (xspl hs y).all (narrs E (M.1.length + M.2.1.length) N old (xrunN E g M rt cc N hs P old n)))
        | none => false)
      | .error _ => false) := rfl
    rw [e1, nforce_eq] at h
    by_cases cP : P (x.1, x.2) = true
    · exact hP x cP H locs ls st (SAT_pre hst)
    · rw [if_neg cP] at h
      cases hd : decode cc x.1 with
      | error _ => rw [hd] at h; cases h
      | ok r =>
        obtain ⟨ins, len⟩ := r
        rw [hd] at h
        simp only at h
        by_cases c1 : xend E M rt ins (x.1, x.2) = true
        · rw [if_pos c1] at h
          exact hend x ins len H locs ls st hd c1 (of_decide_eq_true h) (SAT_pre hst)
        · rw [if_neg c1] at h
          cases h2 : xstep E g ins len (x.1, x.2) with
          | none => rw [h2] at h; cases h
          | some zs =>
            rw [h2] at h
            refine xstep_ok X hG hnl hRk hRc hd h2 hst (fun y hy => ?_)
            have hy' := List.all_eq_true.mp h y hy
            refine xspl_ok (hs := hs) (fun y' hy2 => ?_)
            have hy3 := List.all_eq_true.mp hy' y' hy2
            unfold narrs at hy3
            cases h3 : nfind N y'.1 with
            | some ds =>
              rw [h3] at hy3
              obtain ⟨d, hd1, hd2⟩ := List.any_eq_true.mp hy3
              rw [Bool.and_eq_true, beq_iff_eq] at hd2
              exact hN y' ds d h3 hd1 hd2.1 hd2.2
            | none =>
              rw [h3] at hy3
              exact ih y' hy3
noncomputable def nchk (E : XE) (g : XG) (M : XM) (rt : Nat) (cc : ByteArray) (N : List (Nat × List XD)) (hs : List (Nat × Nat)) (P : XC → Bool) (fuel : Nat) (d : XD) : Bool := decide (d.2.1.length = M.1.length + M.2.1.length) && (match npt (M.1.length + M.2.1.length) d with
  | some (x, F) => (xspl hs x).all (xrunN E g M rt cc N hs P (some F) fuel)
  | none => false)
theorem nodes_ok {g : XG} {ys : List XY} {M : XM} {rt : Nat} {N : List (Nat × List XD)} {hs : List (Nat × Nat)} {P : XC → Bool} {fuel : Nat} (X : CX p s m args meth c own cc nl ret) (hE : G0.length = M.1.length + M.2.1.length) (hG : XGok l E xt D t lo own ys g) (hnl : g.2.1.1 = nl) (hRk : g.2.1.2 ≤ R.frames ∧ 60 * g.2.1.2 ≤ R.locals) (hRc : cells ≤ R.cells ∧ slots ≤ R.slots)
    (hend : ∀ (x : XC) (ins : Instr) (len : Nat) (H : Heap) (locs : List Loc) (ls : Array Slot) (st : List Value), decode cc x.1 = .ok (ins, len) → xend E M rt ins x = true → len = 1 → SAT E xt D t lo G0 f0 A s nl x H locs ls st → W p l e R s m args below meth c H locs cells slots Q (F0 m x.1 ls st))
    (hP : ∀ y : XC, P y = true → GO E xt D t lo G0 f0 A nl p l e R s m args below meth c cells slots Q y)
    (hc : N.all (fun q => q.2.all (nchk E g M rt cc N hs P fuel)) = true) : ∀ (k : Nat) (q : Nat × List XD) (d : XD) (z : Int) (H : Heap) (locs : List Loc) (ls : Array Slot) (st : List Value), q ∈ N → d ∈ q.2 → z.toNat < k → NSAT E xt D t lo G0 f0 A s nl d z H locs ls st → W p l e R s m args below meth c H locs cells slots Q (F0 m d.1 ls st) := by
  intro k
  induction k with
  | zero => intro q d z H locs ls st _ _ h; omega
  | succ k ih =>
    intro q d z H locs ls st hq hd hz hs'
    have hcd := List.all_eq_true.mp (List.all_eq_true.mp hc q hq) d hd
    simp only [nchk, Bool.and_eq_true, decide_eq_true_eq] at hcd
    obtain ⟨c1, c2⟩ := hcd
    cases h1 : npt (M.1.length + M.2.1.length) d with
    | none => rw [h1] at c2; cases c2
    | some q0 =>
      obtain ⟨x0, F⟩ := q0
      rw [h1] at c2
      simp only at c2
      obtain ⟨e1, fr, hS, hF⟩ := npt_ok hE c1 h1 hs'
      rw [← e1]
      refine xspl_ok (G0 := G0 ++ fr) (fun y' hy => xrunN_ok (old := some F) X hG hnl hRk hRc hend hP ?_ fuel y' (List.all_eq_true.mp c2 y' hy)) H locs ls st hS
      intro y ds d' hf hd' e2 ha H' locs' ls' st' hS'
      obtain ⟨z', n1, n2⟩ := narr_ok (zo := z) hE ha (fun F' hF' r => by cases hF'; exact hF r) hS'
      have n3 := n2 (by simp)
      rw [← e2]
      exact ih (y.1, ds) d' z' H' locs' ls' st' (nfind_in hf) hd' (by omega) n1
end XV
