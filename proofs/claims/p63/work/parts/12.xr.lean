theorem px_Tat (t : Nat → ClassId) : ∀ tt, tt < 7 → ∃ ty, (px_T t)[tt]? = some (t tt, ty)
  | 0, _ => ⟨_, rfl⟩
  | 1, _ => ⟨_, rfl⟩
  | 2, _ => ⟨_, rfl⟩
  | 3, _ => ⟨_, rfl⟩
  | 4, _ => ⟨_, rfl⟩
  | 5, _ => ⟨_, rfl⟩
  | 6, _ => ⟨_, rfl⟩
  | n + 7, h => absurd h (by omega)
theorem px_Tat2 (t : Nat → ClassId) : ∀ tt, 4 ≤ tt → tt < 7 → ∃ C, (px_T t)[tt]? = some (t tt, .object C)
  | 4, _, _ => ⟨_, rfl⟩
  | 5, _, _ => ⟨_, rfl⟩
  | 6, _, _ => ⟨_, rfl⟩
  | n + 7, _, h => absurd h (by omega)
section XR
variable {E : XE} {xt : XX} {D : va_G} {t : Nat → ClassId} {lo : Nat} {G0 : List Int} {f0 : Nat → va_E} {A : Nat → Prop}
variable {p : Program} {l : Launch} {e : Env} {R : Room} {s : State} {m : MethodId} {args : Array Value} {below : List Frame} {meth : Method} {c : Code} {H : Heap} {locs : List Loc} {cells slots : Nat} {Q : State → Prop}
variable {cc : ByteArray} {own : String} {nl : Nat} {ret : Option FieldType} {ls : Array Slot} {st : List Value} {x : XC} {xs : List XC} {ins : Instr} {pc : Nat} {fl : XF}
theorem alen_ok (X : CX p s m args meth c own cc nl ret) (hd : decode cc x.1 = .ok (.arraylength, 1)) (h : stepD E fl .arraylength x = some xs) (hs : SAT E xt D t lo G0 f0 A s nl x H locs ls st)
    (kk : ∀ y ∈ xs, GO E xt D t lo G0 f0 A nl p l e R s m args below meth c cells slots Q y) : W p l e R s m args below meth c H locs cells slots Q (F0 m x.1 ls st) := by
  obtain ⟨pc, gi, L, S, V⟩ := x
  match S, hs, h with
  | .inr (.inl κ) :: S, hs, h =>
    simp only [stepD] at h
    cases h2 : E.1[κ]? with
    | none => rw [h2] at h; cases h
    | some κ' =>
      rw [h2] at h
      match κ', h2, h with
      | .inl _, h2, h => cases h
      | .inr (tt, z, el), h2, h =>
        simp only at h
        by_cases c1 : tt < 7 ∧ z < 2147483648
        · rw [if_pos c1] at h
          simp only [Option.some.injEq] at h
          subst h
          obtain ⟨Gs, f, lv, hr0, hg, hl, hL, hS, hV, hT, hZ, hH⟩ := hs
          obtain ⟨v1, st1, rfl, ⟨a, rfl, hB⟩, hS1⟩ := SR_cons hS
          obtain ⟨o, rfl, ho⟩ := xB_in hB h2
          obtain ⟨κ2, k1, k2⟩ := hT o κ ho
          rw [h2] at k1
          cases k1
          obtain ⟨ty, hty⟩ := px_Tat t tt c1.1
          have e0 : ∃ u : vp_A, f (lo + o) = .inl (t tt, u) ∧ u.1 = z := by
            match el, k2 with
            | .inl (u, w, tk, bl), k2 =>
              simp only [cok] at k2
              by_cases c2 : tt = 1
              · rw [if_pos c2] at k2
                obtain ⟨g, e1, -⟩ := k2
                subst c2
                exact ⟨_, e1, rfl⟩
              · rw [if_neg c2] at k2
                obtain ⟨g, e1, -⟩ := k2
                exact ⟨_, e1, rfl⟩
            | .inr ks, k2 =>
              obtain ⟨g, e1, -⟩ := k2
              exact ⟨_, e1, rfl⟩
          obtain ⟨u, e1, e2⟩ := e0
          have hat : px_at lo E.2.1.length f (lo + o) (.inl (t tt, u)) := ⟨⟨by omega, by have := xB_lt ho; omega⟩, e1⟩
          refine px_alen X hH tt hat hty (v := Int32.ofNat z) (by rw [e2]) hd (kk _ List.mem_cons_self _ _ _ _ ⟨Gs, f, lv, hr0, hg, hl, hL, ⟨⟨_, rfl, ?_⟩, hS1⟩, hV, hT, hZ, hH⟩)
          simp only [xval]
          rw [Int32.toInt_ofNat_of_lt (by omega)]
        · rw [if_neg c1] at h; cases h
theorem xtrk_ok {n : XN} {tk : List (Nat × Nat)} {j : Nat} (h : xtrk n tk = some j) : ∃ c : Nat, n = (none, (c : Int)) ∧ klk tk c = some j := by
  obtain ⟨g, c⟩ := n
  cases g with
  | some g => simp [xtrk] at h
  | none =>
    simp only [xtrk] at h
    by_cases c1 : 0 ≤ c
    · rw [if_pos c1] at h
      exact ⟨c.toNat, by rw [Int.toNat_of_nonneg c1], h⟩
    · rw [if_neg c1] at h; cases h
theorem load_ok (X : CX p s m args meth c own cc nl ret) {lw hw : Int} {n : XN} {κ z tt : Nat} {tk : List (Nat × Nat)} {bl : List (Int × Int)} {gi : List XI} {L : List (Nat × XV)} {S V : List XV} (h2 : E.1[κ]? = some (.inr (tt, z, .inl (lw, hw, tk, bl)))) (ht : tt ≠ 1) (h3 : xat gi n z = true) (hw' : TWX E xt lo) (h : xldr pc gi n (xrb E gi V κ n lw hw bl).1 (xrb E gi V κ n lw hw bl).2 tk L S V = some xs) (hs : SAT E xt D t lo G0 f0 A s nl (pc, gi, L, .inl (.inl n) :: .inr (.inl κ) :: S, V) H locs ls st)
    (row : ∀ (f : Nat → va_E) (o : Nat) (g : Nat → Int32) (i : Int32) (rest : List Value), HX D t lo E.2.1.length f A s H locs → px_at lo E.2.1.length f (lo + o) (.inl (t tt, z, .inl g)) → vp_in i z → W p l e R s m args below meth c H locs cells slots Q (F0 m (pc + 1) ls (.int (g i.toNatClampNeg) :: rest)) → W p l e R s m args below meth c H locs cells slots Q (F0 m pc ls (.int i :: .ref (lo + o) :: rest)))
    (kk : ∀ y ∈ xs, GO E xt D t lo G0 f0 A nl p l e R s m args below meth c cells slots Q y) : W p l e R s m args below meth c H locs cells slots Q (F0 m pc ls st) := by
  obtain ⟨Gs, f, lv, ⟨r0, hr0⟩, hg, hl, hL, hS, hV, hT, hZ, hH⟩ := hs
  obtain ⟨v1, st1, rfl, ⟨i, rfl, hi⟩, hS1⟩ := SR_cons hS
  obtain ⟨v2, st2, rfl, ⟨a, rfl, hB⟩, hS2⟩ := SR_cons hS1
  obtain ⟨o, rfl, ho⟩ := xB_in hB h2
  obtain ⟨κ2, k1, k2⟩ := hT o κ ho
  rw [h2] at k1
  cases k1
  simp only [cok] at k2
  rw [if_neg ht] at k2
  obtain ⟨g, e1, e2, e3⟩ := k2
  obtain ⟨p1, p2, p3⟩ := xat_ok h3 hg hi
  have hat : px_at lo E.2.1.length f (lo + o) (.inl (t tt, z, .inl g)) := ⟨⟨by omega, by have := xB_lt ho; omega⟩, e1⟩
  have hrb : (xrb E gi V κ n lw hw bl).1 ≤ (g i.toNatClampNeg).toInt ∧ (g i.toNatClampNeg).toInt ≤ (xrb E gi V κ n lw hw bl).2 := by
    unfold xrb
    split
    · rename_i b hb
      have := xgd_ok (v := .int (g i.toNatClampNeg)) hg hV hZ.2 hw'.2.2 ho hi p3 (by rw [e1]; simp only [cellv]; rw [if_pos p2]) (fun q hq => hq) hb
      exact this
    · exact rbn_ok e2 e3 p2 p3 hi
  unfold xldr at h
  cases hx : xtrk n tk with
  | none =>
    rw [hx] at h
    simp only [Option.some.injEq] at h
    subst h
    obtain ⟨tq, g1, g2⟩ := xmk_ok0 hg hrb.1 hrb.2
    exact row f o g i st2 hH hat p1 (kk _ List.mem_cons_self _ _ _ _ ⟨Gs ++ tq, f, lv, ⟨r0 ++ tq, by rw [hr0, List.append_assoc]⟩, g1, hl, LR_mono hL, ⟨⟨_, rfl, g2⟩, SR_mono hS2⟩, VOK_mono hV, hT, hZ, hH⟩)
  | some j =>
    rw [hx] at h
    obtain ⟨cn, rfl, hk⟩ := xtrk_ok hx
    simp only at h
    cases hvj : V[j]? with
    | none => rw [hvj] at h; cases h
    | some y =>
      rw [hvj] at h
      simp only [Option.some.injEq] at h
      subst h
      simp only [xval, Option.some.injEq] at hi
      have ec : i.toNatClampNeg = cn := by omega
      obtain ⟨v5, q1, q3⟩ := hV j o cn y (hw'.1.2.1 o κ tt z lw hw tk bl cn j ho h2 (klk_mem hk)) hvj
      rw [e1] at q1
      simp only [cellv] at q1
      rw [if_pos (by omega)] at q1
      cases q1
      rw [← ec] at q3
      exact row f o g i st2 hH hat p1 (kk _ List.mem_cons_self _ _ _ _ ⟨Gs, f, lv, ⟨r0, hr0⟩, hg, hl, hL, ⟨q3, hS2⟩, hV, hT, hZ, hH⟩)
theorem loadL_ok (X : CX p s m args meth c own cc nl ret) {lw hw : Int} {n : XN} {κ z : Nat} {gi : List XI} {L : List (Nat × XV)} {S V : List XV} (hd : decode cc pc = .ok (.laload, 1)) {tk : List (Nat × Nat)} {bl : List (Int × Int)} (h2 : E.1[κ]? = some (.inr (1, z, .inl (lw, hw, tk, bl)))) (h3 : xat gi n z = true) (hw' : TWX E xt lo) (hs : SAT E xt D t lo G0 f0 A s nl (pc, gi, L, .inl (.inl n) :: .inr (.inl κ) :: S, V) H locs ls st)
    (kk : GO E xt D t lo G0 f0 A nl p l e R s m args below meth c cells slots Q (pc + 1, (xmk gi (xrb E gi V κ n lw hw []).1 (xrb E gi V κ n lw hw []).2 none).1, L, .inl (.inr (xmk gi (xrb E gi V κ n lw hw []).1 (xrb E gi V κ n lw hw []).2 none).2) :: S, V)) : W p l e R s m args below meth c H locs cells slots Q (F0 m pc ls st) := by
  obtain ⟨Gs, f, lv, ⟨r0, hr0⟩, hg, hl, hL, hS, hV, hT, hZ, hH⟩ := hs
  obtain ⟨v1, st1, rfl, ⟨i, rfl, hi⟩, hS1⟩ := SR_cons hS
  obtain ⟨v2, st2, rfl, ⟨a, rfl, hB⟩, hS2⟩ := SR_cons hS1
  obtain ⟨o, rfl, ho⟩ := xB_in hB h2
  obtain ⟨κ2, k1, k2⟩ := hT o κ ho
  rw [h2] at k1
  cases k1
  simp only [cok] at k2
  rw [if_pos trivial] at k2
  obtain ⟨g, e1, e2⟩ := k2
  obtain ⟨p1, p2, p3⟩ := xat_ok h3 hg hi
  have hat : px_at lo E.2.1.length f (lo + o) (.inl (t 1, z, .inr (.inl g))) := ⟨⟨by omega, by have := xB_lt ho; omega⟩, e1⟩
  have hrb : (xrb E gi V κ n lw hw []).1 ≤ (g i.toNatClampNeg).toInt ∧ (g i.toNatClampNeg).toInt ≤ (xrb E gi V κ n lw hw []).2 := by
    unfold xrb
    split
    · rename_i b hb
      have := xgd_ok (v := .long (g i.toNatClampNeg)) hg hV hZ.2 hw'.2.2 ho hi p3 (by rw [e1]; simp only [cellv]; rw [if_pos p2]) (fun q hq => hq) hb
      exact this
    · have : rbn n lw hw [] = (lw, hw) := by
        unfold rbn
        split
        · simp
        · rfl
      rw [this]
      exact e2 _ p2
  obtain ⟨tq, g1, g2⟩ := xmk_ok0 hg hrb.1 hrb.2
  exact px_lald X hH hat p1 hd (kk _ _ _ _ ⟨Gs ++ tq, f, lv, ⟨r0 ++ tq, by rw [hr0, List.append_assoc]⟩, g1, hl, LR_mono hL, ⟨⟨_, rfl, g2⟩, SR_mono hS2⟩, VOK_mono hV, hT, hZ, hH⟩)
theorem xrefs_in {n : XN} {L : List (Nat × XV)} {S V : List XV} {gi : List XI} {Gs : List Int} {z : Int} (hg : gok Gs gi) (hv : xval Gs n = some z) : ∀ (ks : List Nat) (i j k : Nat), ks[j]? = some k → z = ((i + j : Nat) : Int) → ∃ g, gok Gs g ∧ (pc + 1, g, L, .inr (.inl k) :: S, V) ∈ xrefs pc gi n L S V i ks
  | [], i, j, k, h, _ => by simp at h
  | k0 :: ks, i, 0, k, h, hz => by
    simp only [List.getElem?_cons_zero, Option.some.injEq] at h
    subst h
    obtain ⟨a, b, e1, -, -⟩ := xiv_some hg hv
    obtain ⟨g, g1, g2⟩ := xcut_ok (lo := (i : Int)) (hi := (i : Int)) hg e1 hv (by omega) (by omega)
    refine ⟨g, g2, ?_⟩
    simp only [xrefs, g1]
    exact List.mem_append_left _ List.mem_cons_self
  | k0 :: ks, i, j + 1, k, h, hz => by
    obtain ⟨g, g1, g2⟩ := xrefs_in hg hv ks (i + 1) j k (by simpa using h) (by omega)
    exact ⟨g, g1, by simp only [xrefs]; exact List.mem_append_right _ g2⟩
theorem aald_ok (X : CX p s m args meth c own cc nl ret) (hd : decode cc x.1 = .ok (.aaload, 1)) (h : stepD E fl .aaload x = some xs) (hs : SAT E xt D t lo G0 f0 A s nl x H locs ls st)
    (kk : ∀ y ∈ xs, GO E xt D t lo G0 f0 A nl p l e R s m args below meth c cells slots Q y) : W p l e R s m args below meth c H locs cells slots Q (F0 m x.1 ls st) := by
  obtain ⟨pc, gi, L, S, V⟩ := x
  match S, hs, h with
  | .inl (.inl n) :: .inr (.inl κ) :: S, hs, h =>
    simp only [stepD] at h
    cases h2 : E.1[κ]? with
    | none => rw [h2] at h; cases h
    | some κ' =>
      rw [h2] at h
      match κ', h2, h with
      | .inl _, h2, h => cases h
      | .inr (_, _, .inl _), h2, h => cases h
      | .inr (tt, z, .inr ks), h2, h =>
        simp only at h
        by_cases c1 : xat gi n z = true ∧ 4 ≤ tt ∧ tt < 7
        · rw [if_pos c1] at h
          obtain ⟨Gs, f, lv, hr0, hg, hl, hL, hS, hV, hT, hZ, hH⟩ := hs
          obtain ⟨v1, st1, rfl, ⟨i, rfl, hi⟩, hS1⟩ := SR_cons hS
          obtain ⟨v2, st2, rfl, ⟨a, rfl, hB⟩, hS2⟩ := SR_cons hS1
          obtain ⟨o, rfl, ho⟩ := xB_in hB h2
          obtain ⟨κ2, k1, k2⟩ := hT o κ ho
          rw [h2] at k1
          cases k1
          obtain ⟨g, e1, e2, e3⟩ := k2
          obtain ⟨p1, p2, p3⟩ := xat_ok c1.1 hg hi
          have hat : px_at lo E.2.1.length f (lo + o) (.inl (t tt, z, .inr (.inr (.inr (.inr g))))) := ⟨⟨by omega, by have := xB_lt ho; omega⟩, e1⟩
          obtain ⟨C, hC⟩ := px_Tat2 t tt c1.2.1 c1.2.2
          match ks, e2, e3, h with
          | [], e2, e3, h => cases h
          | k0 :: ks', e2, e3, h =>
            have hlt : i.toNatClampNeg < (k0 :: ks').length := by rw [e2]; exact p2
            have hk := List.getElem?_eq_getElem hlt
            obtain ⟨b, b1, b2⟩ := e3 _ _ hk
            refine px_aald X hH tt hat hC p1 b1 hd ?_
            simp only at h
            by_cases c2 : ks'.all (fun q => q == k0) = true
            · rw [if_pos c2] at h
              simp only [Option.some.injEq] at h
              subst h
              have hk0 : (k0 :: ks')[i.toNatClampNeg] = k0 := by
                have hm := List.getElem_mem hlt
                rcases List.mem_cons.mp hm with q | q
                · exact q
                · exact eq_of_beq (List.all_eq_true.mp c2 _ q)
              rw [hk0] at b2
              exact kk _ List.mem_cons_self _ _ _ _ ⟨Gs, f, lv, hr0, hg, hl, hL, ⟨⟨b, rfl, b2⟩, hS2⟩, hV, hT, hZ, hH⟩
            · rw [if_neg c2] at h
              simp only [Option.some.injEq] at h
              obtain ⟨g', g1, g2⟩ := xrefs_in (pc := pc) (L := L) (S := S) (V := V) hg hi (k0 :: ks') 0 _ _ hk (by omega)
              exact kk (pc + 1, g', L, .inr (.inl (k0 :: ks')[i.toNatClampNeg]) :: S, V) (by rw [← h]; exact g2) _ _ _ _ ⟨Gs, f, lv, hr0, g1, hl, hL, ⟨⟨b, rfl, b2⟩, hS2⟩, hV, hT, hZ, hH⟩
        · rw [if_neg c1] at h; cases h
theorem xstr_ok {lw hw : Int} {v n : XN} {κ z tt : Nat} {tk : List (Nat × Nat)} {bl : List (Int × Int)} {gi : List XI} {L : List (Nat × XV)} {S V : List XV} {Gs : List Int} {f : Nat → va_E} {o : Nat} {g : Nat → Int32} {i y' : Int32} {cA : ClassId} (hw' : TW E) (ho : E.2.1[o]? = some κ) (h2 : E.1[κ]? = some (.inr (tt, z, .inl (lw, hw, tk, bl)))) (hV : VOK E xt lo Gs V f) (hf : f (lo + o) = .inl (cA, z, .inl g)) (e2 : ∀ i, i < z → lw ≤ (g i).toInt ∧ (g i).toInt ≤ hw) (hb : lw ≤ y'.toInt ∧ y'.toInt ≤ hw) (hg : gok Gs gi) (hi : xval Gs n = some i.toInt) (hin : i.toNatClampNeg < z ∧ (i.toNatClampNeg : Int) = i.toInt) (hy : xval Gs v = some y'.toInt) (h : xstr pc gi n v lw hw tk L S V = some xs) : ∃ gi' V' tq, xs = [(pc + 1, gi', L, S, V')] ∧ gok (Gs ++ tq) gi' ∧ VOK E xt lo (Gs ++ tq) V' (va_up f (lo + o) (.inl (cA, z, .inl (upd g i.toNatClampNeg y')))) := by
  have hnew : ∀ k, k < z → lw ≤ (upd g i.toNatClampNeg y' k).toInt ∧ (upd g i.toNatClampNeg y' k).toInt ≤ hw := upd_b e2 hb
  -- places that V tells of this row
  have hin2 : ∀ q ∈ tk, E.2.2.2[q.2]? = some (o, q.1) := fun q hq => hw'.2.1 o κ tt z lw hw tk bl q.1 q.2 ho h2 hq
  have hin3 : ∀ q ∈ tk, q.1 < z := fun q hq => by
    obtain ⟨κ2, b1, b2⟩ := hw'.2.2 q.2 o q.1 (hin2 q hq)
    rw [ho] at b1
    cases b1
    rcases b2 with ⟨ci2, ts2, b2, b3⟩ | ⟨tt', z', l', u', tk', bl', b2, b3, b4, b5⟩
    · rw [h2] at b2; cases b2
    · rw [h2] at b2; cases b2; exact b4
  obtain ⟨gn, cn⟩ := n
  cases gn with
  | none =>
    simp only [xstr] at h
    simp only [xval, Option.some.injEq] at hi
    cases hx : xtrk (none, cn) tk with
    | some j =>
      rw [hx] at h
      simp only [Option.some.injEq] at h
      obtain ⟨c, e0, hk⟩ := xtrk_ok hx
      simp only [Prod.mk.injEq, true_and] at e0
      have ec : i.toNatClampNeg = c := by omega
      refine ⟨gi, _, [], h.symm, by simpa using hg, ?_⟩
      rw [List.append_nil]
      refine VOK_upA hw' hV ho h2 (fun j' x' hx' => ?_) hf
      by_cases cj : j = j'
      · subst cj
        rw [List.getElem?_set, if_pos rfl] at hx'
        by_cases cl : j < V.length
        · rw [if_pos cl] at hx'
          cases hx'
          exact Or.inr ⟨c, hin2 _ (klk_mem hk), hin3 _ (klk_mem hk), y', by rw [ec, pk_us], hy⟩
        · rw [if_neg cl] at hx'; cases hx'
      · rw [List.getElem?_set, if_neg cj] at hx'
        refine Or.inl ⟨hx', fun k hk' e => ?_⟩
        rw [e, ec] at hk'
        rw [hk] at hk'
        exact cj (Option.some.inj hk')
    | none =>
      rw [hx] at h
      simp only [Option.some.injEq] at h
      refine ⟨gi, _, [], h.symm, by simpa using hg, ?_⟩
      rw [List.append_nil]
      refine VOK_upA hw' hV ho h2 (fun j' x' hx' => Or.inl ⟨hx', fun k hk' e => ?_⟩) hf
      have hc0 : 0 ≤ cn := by omega
      simp only [xtrk, if_pos hc0] at hx
      have : cn.toNat = k := by omega
      rw [this, hk'] at hx
      cases hx
  | some gn =>
    simp only [xstr] at h
    cases hxi : xiv gi (some gn, cn) with
    | none => rw [hxi] at h; cases h
    | some ab =>
      obtain ⟨a, b⟩ := ab
      rw [hxi] at h
      simp only [Option.some.injEq] at h
      have hab := xiv_ok hg hxi hi
      obtain ⟨tq, t1, t2⟩ := xforg_ok (a := a) (b := b) (l := lw) (u := hw) (tk := tk) (V := V) (val := fun j => match E.2.2.2[j]? with | some (_, k) => (upd g i.toNatClampNeg y' k).toInt | none => 0) hg (fun q hq => by rw [hin2 q hq]; exact hnew _ (hin3 q hq))
      refine ⟨_, _, tq, h.symm, t1, ?_⟩
      refine VOK_upA hw' (VOK_mono hV) ho h2 (fun j' x' hx' => ?_) hf
      rcases t2 j' x' hx' with ⟨e1, e2'⟩ | ⟨q, q1, q2, n', q3, q4⟩
      · refine Or.inl ⟨e1, fun k hk' e => ?_⟩
        have := e2' (k, j') (klk_mem hk') rfl
        apply this
        simp only
        omega
      · subst q2
        refine Or.inr ⟨q.1, hin2 q q1, hin3 q q1, ?_⟩
        subst q3
        rw [hin2 q q1] at q4
        exact ⟨_, rfl, q4⟩
theorem store_ok (X : CX p s m args meth c own cc nl ret) {lw hw : Int} {v n : XN} {κ z tt : Nat} {tk : List (Nat × Nat)} {bl : List (Int × Int)} {gi : List XI} {L : List (Nat × XV)} {S V : List XV} {nar : Int32 → Int32} (hnar : ∀ (Gs : List Int) (y : Int32), gok Gs gi → xval Gs v = some y.toInt → (nar y).toInt = y.toInt) (h2 : E.1[κ]? = some (.inr (tt, z, .inl (lw, hw, tk, bl)))) (ht : tt ≠ 1) (h3 : (xat gi n z && xfp gi n v bl) = true) (h4 : xwp E gi κ n = true) (h5 : xin gi (.inl (.inl (lw, hw))) 0 (.inl (.inl v)) = true) (hw' : TWX E xt lo) (h : xstr pc gi n v lw hw tk L S V = some xs) (hs : SAT E xt D t lo G0 f0 A s nl (pc, gi, L, .inl (.inl v) :: .inl (.inl n) :: .inr (.inl κ) :: S, V) H locs ls st)
    (row : ∀ (f : Nat → va_E) (o : Nat) (g : Nat → Int32) (i y : Int32) (rest : List Value), HX D t lo E.2.1.length f A s H locs → px_at lo E.2.1.length f (lo + o) (.inl (t tt, z, .inl g)) → vp_in i z → (∀ (H1 : Heap) (locs1 : List Loc), HX D t lo E.2.1.length (va_up f (lo + o) (.inl (t tt, z, .inl (upd g i.toNatClampNeg (nar y))))) A s H1 locs1 → W p l e R s m args below meth c H1 locs1 cells slots Q (F0 m (pc + 1) ls rest)) → W p l e R s m args below meth c H locs cells slots Q (F0 m pc ls (.int y :: .int i :: .ref (lo + o) :: rest)))
    (kk : ∀ y ∈ xs, GO E xt D t lo G0 f0 A nl p l e R s m args below meth c cells slots Q y) : W p l e R s m args below meth c H locs cells slots Q (F0 m pc ls st) := by
  obtain ⟨Gs, f, lv, ⟨r0, hr0⟩, hg, hl, hL, hS, hV, hT, hZ, hH⟩ := hs
  obtain ⟨v0, st0, rfl, ⟨y, rfl, hy⟩, hS0⟩ := SR_cons hS
  obtain ⟨v1, st1, rfl, ⟨i, rfl, hi⟩, hS1⟩ := SR_cons hS0
  obtain ⟨v2, st2, rfl, ⟨a, rfl, hB⟩, hS2⟩ := SR_cons hS1
  obtain ⟨o, rfl, ho⟩ := xB_in hB h2
  obtain ⟨κ2, k1, k2⟩ := hT o κ ho
  rw [h2] at k1
  cases k1
  simp only [cok] at k2
  rw [if_neg ht] at k2
  obtain ⟨g, e1, e2, e3⟩ := k2
  rw [Bool.and_eq_true] at h3
  obtain ⟨h3, h3'⟩ := h3
  obtain ⟨p1, p2, p3⟩ := xat_ok h3 hg hi
  have hat : px_at lo E.2.1.length f (lo + o) (.inl (t tt, z, .inl g)) := ⟨⟨by omega, by have := xB_lt ho; omega⟩, e1⟩
  have hb := xin_num h5 hg hy
  have hn := hnar Gs y hg hy
  rw [← hn] at hb
  obtain ⟨gi', V', tq, q1, q2, q3⟩ := xstr_ok (y' := nar y) hw'.1 ho h2 hV e1 e2 hb hg hi ⟨p2, p3⟩ (by rw [hn]; exact hy) h
  subst q1
  obtain ⟨ps, d1, d2⟩ := xwp_ok h4 hg hi p3
  refine row f o g i y st2 hH hat p1 (fun H1 locs1 hH1 => kk _ List.mem_cons_self _ _ _ _ ⟨Gs ++ tq, _, lv, ⟨r0 ++ tq, by rw [hr0, List.append_assoc]⟩, q2, hl, LR_mono hL, SR_mono hS2, q3, TYP_up hT ho h2 ?_, FZ_up hw' hZ ho d1 (fun k' hk' => by rw [e1]; simp only [cellv]; rw [pk_un (d2 k' hk')]), hH1⟩)
  simp only [cok]
  rw [if_neg ht]
  exact ⟨_, rfl, upd_b e2 hb, BL_upd e3 (fun b hb' => by rw [hn]; exact xfp_ok h3' hg hi hy p3 hb')⟩
theorem storeL_ok (X : CX p s m args meth c own cc nl ret) {lw hw : Int} {v n : XN} {κ z : Nat} {gi : List XI} {L : List (Nat × XV)} {S V : List XV} (hd : decode cc pc = .ok (.lastore, 1)) {tk : List (Nat × Nat)} {bl : List (Int × Int)} (h2 : E.1[κ]? = some (.inr (1, z, .inl (lw, hw, tk, bl)))) (h3 : xat gi n z = true) (h4 : xwp E gi κ n = true) (h5 : xin gi (.inl (.inr (lw, hw))) 2 (.inl (.inr v)) = true) (hw' : TWX E xt lo) (hs : SAT E xt D t lo G0 f0 A s nl (pc, gi, L, .inl (.inr v) :: .inl (.inl n) :: .inr (.inl κ) :: S, V) H locs ls st)
    (kk : GO E xt D t lo G0 f0 A nl p l e R s m args below meth c cells slots Q (pc + 1, gi, L, S, V)) : W p l e R s m args below meth c H locs cells slots Q (F0 m pc ls st) := by
  obtain ⟨Gs, f, lv, hr0, hg, hl, hL, hS, hV, hT, hZ, hH⟩ := hs
  obtain ⟨v0, st0, rfl, ⟨y, rfl, hy⟩, hS0⟩ := SR_cons hS
  obtain ⟨v1, st1, rfl, ⟨i, rfl, hi⟩, hS1⟩ := SR_cons hS0
  obtain ⟨v2, st2, rfl, ⟨a, rfl, hB⟩, hS2⟩ := SR_cons hS1
  obtain ⟨o, rfl, ho⟩ := xB_in hB h2
  obtain ⟨κ2, k1, k2⟩ := hT o κ ho
  rw [h2] at k1
  cases k1
  simp only [cok] at k2
  rw [if_pos trivial] at k2
  obtain ⟨g, e1, e2⟩ := k2
  obtain ⟨p1, p2, p3⟩ := xat_ok h3 hg hi
  have hat : px_at lo E.2.1.length f (lo + o) (.inl (t 1, z, .inr (.inl g))) := ⟨⟨by omega, by have := xB_lt ho; omega⟩, e1⟩
  have hb := xin_numL h5 hg hy
  obtain ⟨ps, d1, d2⟩ := xwp_ok h4 hg hi p3
  refine px_last X hH hat p1 hd (fun H1 locs1 hH1 => kk _ _ _ _ ⟨Gs, _, lv, hr0, hg, hl, hL, hS2, VOK_up2 hw'.1 hV ho h2 (fun _ _ _ _ _ => Or.inr rfl), TYP_up hT ho h2 ?_, FZ_up hw' hZ ho d1 (fun k' hk' => by rw [e1]; simp only [cellv]; rw [pk_uLn (d2 k' hk')]), hH1⟩)
  simp only [cok]
  rw [if_pos trivial]
  exact ⟨_, rfl, updL_b e2 hb⟩
theorem stepD_ok (hF : FLok own fl) (hw' : TWX E xt lo) (X : CX p s m args meth c own cc nl ret) (hd : decode cc x.1 = .ok (ins, xlen ins)) (h : stepD E fl ins x = some xs) (hs : SAT E xt D t lo G0 f0 A s nl x H locs ls st)
    (kk : ∀ y ∈ xs, GO E xt D t lo G0 f0 A nl p l e R s m args below meth c cells slots Q y) : W p l e R s m args below meth c H locs cells slots Q (F0 m x.1 ls st) := by
  have h0 := h
  unfold stepD at h
  split at h
  · exact get_ok hF X hd h0 hs kk hw'
  · exact put_ok hF X hd h0 hs kk hw'
  · exact alen_ok X hd h0 hs kk
  · obtain ⟨pc, gi, L, S, V⟩ := x
    split at h
    · rename_i q
      cases q
      split at h
      · rename_i h2
        split at h
        · rename_i c1
          exact load_ok X h2 (by decide) c1 hw' h hs (fun f o g i rest hH hat p1 kx => px_iald X hH hat p1 hd kx) kk
        · cases h
      · cases h
    · cases h
  · obtain ⟨pc, gi, L, S, V⟩ := x
    split at h
    · rename_i q
      cases q
      split at h
      · rename_i h2
        split at h
        · rename_i c1
          exact load_ok X h2 (by decide) c1 hw' h hs (fun f o g i rest hH hat p1 kx => px_bald X hH hat p1 hd kx) kk
        · cases h
      · rename_i h2
        split at h
        · rename_i c1
          exact load_ok X h2 (by decide) c1 hw' h hs (fun f o g i rest hH hat p1 kx => px_zald X hH hat p1 hd kx) kk
        · cases h
      · cases h
    · cases h
  · obtain ⟨pc, gi, L, S, V⟩ := x
    split at h
    · rename_i q
      cases q
      split at h
      · rename_i h2
        split at h
        · rename_i c1
          simp only [Option.some.injEq] at h
          subst h
          exact loadL_ok X hd h2 c1 hw' hs (kk _ List.mem_cons_self)
        · cases h
      · cases h
    · cases h
  · exact aald_ok X hd h0 hs kk
  · obtain ⟨pc, gi, L, S, V⟩ := x
    split at h
    · rename_i q
      cases q
      split at h
      · rename_i h2
        split at h
        · rename_i c1
          exact store_ok (nar := fun y => y) X (fun _ _ _ _ => rfl) h2 (by decide) c1.1 c1.2.1 c1.2.2 hw' h hs (fun f o g i y rest hH hat p1 kx => px_iast X hH hat p1 hd kx) kk
        · cases h
      · cases h
    · cases h
  · obtain ⟨pc, gi, L, S, V⟩ := x
    split at h
    · rename_i q
      cases q
      split at h
      · rename_i h2
        split at h
        · rename_i c1
          refine store_ok (nar := vp_nar .byte) X (fun Gs y hg hy => ?_) h2 (by decide) c1.1 c1.2.1 c1.2.2.1 hw' h hs (fun f o g i y rest hH hat p1 kx => px_bast X hH hat p1 hd kx) kk
          have q := xin_num c1.2.2.2 hg hy
          rw [vp_nar_byte, Int8.toInt_toInt32, Int32.toInt_toInt8]
          exact Int.bmod_eq_of_le (by omega) (by omega)
        · cases h
      · rename_i h2
        split at h
        · rename_i c1
          refine store_ok (nar := vp_nar .boolean) X (fun Gs y hg hy => ?_) h2 (by decide) c1.1 c1.2.1 c1.2.2.1 hw' h hs (fun f o g i y rest hH hat p1 kx => px_zast2 X hH hat p1 hd kx) kk
          have q := xin_num c1.2.2.2 hg hy
          rcases bool_01 q.1 q.2 with rfl | rfl
          · rfl
          · rfl
        · cases h
      · cases h
    · cases h
  · obtain ⟨pc, gi, L, S, V⟩ := x
    split at h
    · rename_i q
      cases q
      split at h
      · rename_i h2
        split at h
        · rename_i c1
          simp only [Option.some.injEq] at h
          subst h
          exact storeL_ok X hd h2 c1.1 c1.2.1 c1.2.2 hw' hs (kk _ List.mem_cons_self)
        · cases h
      · cases h
    · cases h
  · cases h
end XR
