/-! STEPS: branches -/
/-- a target -/
def xtgt (pc : Nat) (off : Int) : Option Nat := if 0 ≤ (pc : Int) + off then some ((pc : Int) + off).toNat else none
theorem xtgt_ok {pc t : Nat} {off : Int} (h : xtgt pc off = some t) : (pc : Int) + off = (t : Int) := by
  unfold xtgt at h
  by_cases c : 0 ≤ (pc : Int) + off
  · rw [if_pos c] at h
    simp only [Option.some.injEq] at h
    omega
  · rw [if_neg c] at h; cases h
/-- unlike: below or above, if one is a constant -/
def xnec2 (gi : List XI) (a : XN) (p : Int × Int) (c : Int) : List (List XI) := if p.1 ≤ c ∧ c ≤ p.2 then (xcutR gi a p.1 (c - 1)).toList ++ (xcutR gi a (c + 1) p.2).toList else [gi]
def xneL (gi : List XI) (a b : XN) : List (List XI) := match xiv gi a, xiv gi b with
  | some p, some q => if q.1 = q.2 then xnec2 gi a p q.1 else if p.1 = p.2 then xnec2 gi b q p.1 else if xleq gi a b = true then (xlt gi a b).toList else if xleq gi b a = true then (xlt gi b a).toList else [gi]
  | _, _ => []
theorem xnec2_ok {Gs : List Int} {gi : List XI} {a : XN} {x c l u : Int} (h : gok Gs gi) (ha : xval Gs a = some x) (e1 : xiv gi a = some (l, u)) (p1 : l ≤ x) (p2 : x ≤ u) (hne : x ≠ c) : ∃ g, g ∈ xnec2 gi a (l, u) c ∧ gok Gs g := by
  unfold xnec2
  by_cases c1 : l ≤ c ∧ c ≤ u
  · rw [if_pos c1]
    rcases Int.lt_or_gt_of_ne hne with q | q
    · obtain ⟨g, g1, g2⟩ := xcutR_ok (lo := l) (hi := c - 1) h e1 ha (by omega) (by omega)
      exact ⟨g, List.mem_append_left _ (by dsimp only; rw [g1]; exact List.mem_cons_self), g2⟩
    · obtain ⟨g, g1, g2⟩ := xcutR_ok (lo := c + 1) (hi := u) h e1 ha (by omega) (by omega)
      exact ⟨g, List.mem_append_right _ (by dsimp only; rw [g1]; exact List.mem_cons_self), g2⟩
  · rw [if_neg c1]
    exact ⟨gi, List.mem_cons_self, h⟩
theorem xneL_ok {Gs : List Int} {gi : List XI} {a b : XN} {x y : Int} (h : gok Gs gi) (ha : xval Gs a = some x) (hb : xval Gs b = some y) (he : x ≠ y) : ∃ g, g ∈ xneL gi a b ∧ gok Gs g := by
  obtain ⟨la, ua, e1, p1, p2⟩ := xiv_some h ha
  obtain ⟨lb, ub, e2, q1, q2⟩ := xiv_some h hb
  simp only [xneL, e1, e2]
  by_cases c1 : lb = ub
  · rw [if_pos c1]
    exact xnec2_ok h ha e1 p1 p2 (by omega)
  · rw [if_neg c1]
    by_cases c2 : la = ua
    · rw [if_pos c2]
      exact xnec2_ok h hb e2 q1 q2 (by omega)
    · rw [if_neg c2]
      by_cases c3 : xleq gi a b = true
      · rw [if_pos c3]
        have := xleq_ok h ha hb c3
        obtain ⟨g, g1, g2⟩ := xlt_ok h ha hb (by omega)
        exact ⟨g, by rw [g1]; exact List.mem_cons_self, g2⟩
      · rw [if_neg c3]
        by_cases c4 : xleq gi b a = true
        · rw [if_pos c4]
          have := xleq_ok h hb ha c4
          obtain ⟨g, g1, g2⟩ := xlt_ok h hb ha (by omega)
          exact ⟨g, by rw [g1]; exact List.mem_cons_self, g2⟩
        · rw [if_neg c4]
          exact ⟨gi, List.mem_cons_self, h⟩
/-- what a comparison a ? b tells where it holds, and where it doesn't -/
def xcond (co : ClassFile.Cond) (gi : List XI) (a b : XN) : List (List XI) × List (List XI) := match co with
  | .eq => ((xeq gi a b).toList, xneL gi a b)
  | .ne => (xneL gi a b, (xeq gi a b).toList)
  | .lt => ((xlt gi a b).toList, (xle gi b a).toList)
  | .ge => ((xle gi b a).toList, (xlt gi a b).toList)
  | .gt => ((xlt gi b a).toList, (xle gi a b).toList)
  | .le => ((xle gi a b).toList, (xlt gi b a).toList)
def cnd (co : ClassFile.Cond) (x y : Int) : Prop := match co with
  | .eq => x = y
  | .ne => ¬ x = y
  | .lt => x < y
  | .ge => y ≤ x
  | .gt => y < x
  | .le => x ≤ y
theorem ofL {Gs : List Int} {o : Option (List XI)} (h : ∃ g, o = some g ∧ gok Gs g) : ∃ g, g ∈ o.toList ∧ gok Gs g := by
  obtain ⟨g, g1, g2⟩ := h
  exact ⟨g, by rw [g1]; exact List.mem_cons_self, g2⟩
theorem xcond_t {Gs : List Int} {gi : List XI} {a b : XN} {x y : Int} {co : ClassFile.Cond} (h : gok Gs gi) (ha : xval Gs a = some x) (hb : xval Gs b = some y) (hc : cnd co x y) : ∃ g, g ∈ (xcond co gi a b).1 ∧ gok Gs g := by
  cases co with
  | eq => exact ofL (xeq_ok h ha hb hc)
  | ne => exact xneL_ok h ha hb hc
  | lt => exact ofL (xlt_ok h ha hb hc)
  | ge => exact ofL (xle_ok h hb ha hc)
  | gt => exact ofL (xlt_ok h hb ha hc)
  | le => exact ofL (xle_ok h ha hb hc)
theorem xcond_f {Gs : List Int} {gi : List XI} {a b : XN} {x y : Int} {co : ClassFile.Cond} (h : gok Gs gi) (ha : xval Gs a = some x) (hb : xval Gs b = some y) (hc : ¬ cnd co x y) : ∃ g, g ∈ (xcond co gi a b).2 ∧ gok Gs g := by
  cases co with
  | eq => exact xneL_ok h ha hb hc
  | ne => exact ofL (xeq_ok h ha hb (by simpa [cnd] using hc))
  | lt => exact ofL (xle_ok h hb ha (by simp only [cnd] at hc; omega))
  | ge => exact ofL (xlt_ok h ha hb (by simp only [cnd] at hc; omega))
  | gt => exact ofL (xle_ok h ha hb (by simp only [cnd] at hc; omega))
  | le => exact ofL (xlt_ok h hb ha (by simp only [cnd] at hc; omega))
def xfork (r : List (List XI) × List (List XI)) (t1 t2 : Nat) (L : List (Nat × XV)) (S : List XV) (V : List XV) : List XC :=
  r.1.map (fun g => (t1, g, L, S, V)) ++ r.2.map (fun g => (t2, g, L, S, V))
def xsw (pc : Nat) (n : XN) (L : List (Nat × XV)) (S : List XV) (V : List XV) (gi : List XI) : Int → List Int → Option (List XC)
  | _, [] => some []
  | v, off :: r => match xsw pc n L S V gi (v + 1) r with
    | none => none
    | some ys => match xcutR gi n v v with
      | none => some ys
      | some g => match xtgt pc off with
        | none => none
        | some t => some ((t, g, L, S, V) :: ys)
def stepC (ins : Instr) (x : XC) : Option (List XC) := match ins with
  | .goto off => match x with
    | (pc, gi, L, S, V) => match xtgt pc off with
      | some t => some [(t, gi, L, S, V)]
      | none => none
  | .ifCond co off => match x with
    | (pc, gi, L, .inl (.inl n) :: S, V) => match xtgt pc off with
      | some t => some (xfork (xcond co gi n (none, 0)) t (pc + 3) L S V)
      | none => none
    | (pc, gi, L, .inr (.inr (a, b)) :: S, V) => match xtgt pc off with
      | some t => some (xfork (xcond co gi a b) t (pc + 3) L S V)
      | none => none
    | _ => none
  | .if_icmp co off => match x with
    | (pc, gi, L, .inl (.inl b) :: .inl (.inl a) :: S, V) => match xtgt pc off with
      | some t => some (xfork (xcond co gi a b) t (pc + 3) L S V)
      | none => none
    | _ => none
  | _ => none
/-- a switch by a table -/
def stepW (d lo hi : Int) (offs : List Int) (x : XC) : Option (List XC) := match x with
  | (pc, gi, L, .inl (.inl n) :: S, V) => match xsw pc n L S V gi lo offs, xtgt pc d with
    | some ys, some t => if hi + 1 = lo + offs.length then some ((match xcutR gi n lo32 (lo - 1) with | some g => [(t, g, L, S, V)] | none => []) ++ ((match xcutR gi n (hi + 1) hi32 with | some g => [(t, g, L, S, V)] | none => []) ++ ys)) else none
    | _, _ => none
  | _ => none
theorem cmp_cnd {x y : Int64} {co : ClassFile.Cond} : cnd co (lg_cmp x y).toInt 0 ↔ cnd co x.toInt y.toInt := by
  unfold lg_cmp
  have e1 : ((1 : Int32)).toInt = 1 := rfl
  have e0 : ((0 : Int32)).toInt = 0 := rfl
  have em : ((-1 : Int32)).toInt = -1 := rfl
  by_cases h1 : x > y
  · rw [if_pos h1, e1]
    have h2 : y.toInt < x.toInt := Int64.lt_iff_toInt_lt.mp h1
    cases co <;> simp only [cnd] <;> omega
  · rw [if_neg h1]
    have h2 : ¬ y.toInt < x.toInt := fun q => h1 (Int64.lt_iff_toInt_lt.mpr q)
    by_cases h3 : x = y
    · rw [if_pos h3, e0]
      subst h3
      cases co <;> simp only [cnd] <;> omega
    · rw [if_neg h3, em]
      have h4 : ¬ x.toInt = y.toInt := fun q => h3 (Int64.toInt_inj.mp q)
      cases co <;> simp only [cnd] <;> omega
section XCC
variable {E : XE} {xt : XX} {D : va_G} {t : Nat → ClassId} {lo : Nat} {G0 : List Int} {f0 : Nat → va_E} {A : Nat → Prop}
variable {p : Program} {l : Launch} {e : Env} {R : Room} {s : State} {m : MethodId} {args : Array Value} {below : List Frame} {meth : Method} {c : Code} {H : Heap} {locs : List Loc} {cells slots : Nat} {Q : State → Prop}
variable {cc : ByteArray} {own : String} {nl : Nat} {ret : Option FieldType} {ls : Array Slot} {st : List Value} {x : XC} {xs : List XC} {ins : Instr} {pc : Nat}
theorem row_if (X : CX p s m args meth c own cc nl ret) {co : ClassFile.Cond} {off : Int} {tgt : Nat} {v : Int32} {rest : List Value} (hd : decode cc pc = .ok (.ifCond co off, 3)) (ht : (pc : Int) + off = (tgt : Int))
    (kt : cnd co v.toInt 0 → W p l e R s m args below meth c H locs cells slots Q (F0 m tgt ls rest)) (kf : ¬ cnd co v.toInt 0 → W p l e R s m args below meth c H locs cells slots Q (F0 m (pc + 3) ls rest)) : W p l e R s m args below meth c H locs cells slots Q (F0 m pc ls (.int v :: rest)) := by
  have z : (0 : Int32).toInt = 0 := rfl
  have heq : ∀ {a b : Int32}, a.toInt = b.toInt ↔ a = b := Int32.toInt_inj
  cases co with
  | eq => exact lv_if_eq X.1 X.2.1 hd ht (fun q => kt (by rw [q]; rfl)) (fun q => kf (fun w => q (heq.mp w)))
  | ne => exact lv_if_ne X.1 X.2.1 hd ht (fun q => kt (fun w => q (heq.mp w))) (fun q => kf (fun w => w (by rw [q]; rfl)))
  | lt => exact lv_if_lt X.1 X.2.1 hd ht (fun q => kt (Int32.lt_iff_toInt_lt.mp q)) (fun q => kf (fun w => q (Int32.lt_iff_toInt_lt.mpr w)))
  | ge => exact lv_if_ge X.1 X.2.1 hd ht (fun q => kt (Int32.le_iff_toInt_le.mp q)) (fun q => kf (fun w => q (Int32.le_iff_toInt_le.mpr w)))
  | gt => exact lv_if_gt X.1 X.2.1 hd ht (fun q => kt (Int32.lt_iff_toInt_lt.mp q)) (fun q => kf (fun w => q (Int32.lt_iff_toInt_lt.mpr w)))
  | le => exact lv_if_le X.1 X.2.1 hd ht (fun q => kt (Int32.le_iff_toInt_le.mp q)) (fun q => kf (fun w => q (Int32.le_iff_toInt_le.mpr w)))
theorem row_icmp (X : CX p s m args meth c own cc nl ret) {co : ClassFile.Cond} {off : Int} {tgt : Nat} {v w : Int32} {rest : List Value} (hd : decode cc pc = .ok (.if_icmp co off, 3)) (ht : (pc : Int) + off = (tgt : Int))
    (kt : cnd co v.toInt w.toInt → W p l e R s m args below meth c H locs cells slots Q (F0 m tgt ls rest)) (kf : ¬ cnd co v.toInt w.toInt → W p l e R s m args below meth c H locs cells slots Q (F0 m (pc + 3) ls rest)) : W p l e R s m args below meth c H locs cells slots Q (F0 m pc ls (.int w :: .int v :: rest)) := by
  have heq : ∀ {a b : Int32}, a.toInt = b.toInt ↔ a = b := Int32.toInt_inj
  cases co with
  | eq => exact lv_icmp_eq X.1 X.2.1 hd ht (fun q => kt (by rw [q]; rfl)) (fun q => kf (fun w => q (heq.mp w)))
  | ne => exact lv_icmp_ne X.1 X.2.1 hd ht (fun q => kt (fun w => q (heq.mp w))) (fun q => kf (fun w => w (by rw [q])))
  | lt => exact lv_icmp_lt X.1 X.2.1 hd ht (fun q => kt (Int32.lt_iff_toInt_lt.mp q)) (fun q => kf (fun w => q (Int32.lt_iff_toInt_lt.mpr w)))
  | ge => exact lv_icmp_ge X.1 X.2.1 hd ht (fun q => kt (Int32.le_iff_toInt_le.mp q)) (fun q => kf (fun w => q (Int32.le_iff_toInt_le.mpr w)))
  | gt => exact lv_icmp_gt X.1 X.2.1 hd ht (fun q => kt (Int32.lt_iff_toInt_lt.mp q)) (fun q => kf (fun w => q (Int32.lt_iff_toInt_lt.mpr w)))
  | le => exact lv_icmp_le X.1 X.2.1 hd ht (fun q => kt (Int32.le_iff_toInt_le.mp q)) (fun q => kf (fun w => q (Int32.le_iff_toInt_le.mpr w)))
theorem xfork_1 {r : List (List XI) × List (List XI)} {t1 t2 : Nat} {L : List (Nat × XV)} {S V : List XV} {g : List XI} (h : g ∈ r.1) : (t1, g, L, S, V) ∈ xfork r t1 t2 L S V :=
  List.mem_append_left _ (List.mem_map.mpr ⟨g, h, rfl⟩)
theorem xfork_2 {r : List (List XI) × List (List XI)} {t1 t2 : Nat} {L : List (Nat × XV)} {S V : List XV} {g : List XI} (h : g ∈ r.2) : (t2, g, L, S, V) ∈ xfork r t1 t2 L S V :=
  List.mem_append_right _ (List.mem_map.mpr ⟨g, h, rfl⟩)
theorem stepC_ok (X : CX p s m args meth c own cc nl ret) (hd : decode cc x.1 = .ok (ins, xlen ins)) (h : stepC ins x = some xs) (hs : SAT E xt D t lo G0 f0 A s nl x H locs ls st)
    (kk : ∀ y ∈ xs, GO E xt D t lo G0 f0 A nl p l e R s m args below meth c cells slots Q y) : W p l e R s m args below meth c H locs cells slots Q (F0 m x.1 ls st) := by
  obtain ⟨pc, gi, L, S, V⟩ := x
  unfold stepC at h
  split at h
  · rename_i off
    simp only at h
    cases ht : xtgt pc off with
    | none => rw [ht] at h; cases h
    | some tg =>
      rw [ht] at h
      simp only [Option.some.injEq] at h
      subst h
      exact lv_goto X.1 X.2.1 hd (xtgt_ok ht) (kk _ List.mem_cons_self _ _ _ _ hs)
  · rename_i co off
    match S, hs, h with
    | .inl (.inl n) :: S, hs, h =>
      simp only at h
      cases ht : xtgt pc off with
      | none => rw [ht] at h; cases h
      | some tg =>
        rw [ht] at h
        simp only [Option.some.injEq] at h
        subst h
        obtain ⟨Gs, f, lv, hr0, hg, hl, hL, hS, hV, hT, hZ, hH⟩ := hs
        obtain ⟨v1, st1, rfl, ⟨i, rfl, hv⟩, hS1⟩ := SR_cons hS
        refine row_if X hd (xtgt_ok ht) (fun q => ?_) (fun q => ?_)
        · obtain ⟨g, g1, g2⟩ := xcond_t (b := (none, 0)) hg hv rfl q
          exact kk _ (xfork_1 g1) _ _ _ _ ⟨Gs, f, lv, hr0, g2, hl, hL, hS1, hV, hT, hZ, hH⟩
        · obtain ⟨g, g1, g2⟩ := xcond_f (b := (none, 0)) hg hv rfl q
          exact kk _ (xfork_2 g1) _ _ _ _ ⟨Gs, f, lv, hr0, g2, hl, hL, hS1, hV, hT, hZ, hH⟩
    | .inr (.inr (a, b)) :: S, hs, h =>
      simp only at h
      cases ht : xtgt pc off with
      | none => rw [ht] at h; cases h
      | some tg =>
        rw [ht] at h
        simp only [Option.some.injEq] at h
        subst h
        obtain ⟨Gs, f, lv, hr0, hg, hl, hL, hS, hV, hT, hZ, hH⟩ := hs
        obtain ⟨v1, st1, rfl, ⟨i, j, rfl, hv, hw⟩, hS1⟩ := SR_cons hS
        refine row_if X hd (xtgt_ok ht) (fun q => ?_) (fun q => ?_)
        · obtain ⟨g, g1, g2⟩ := xcond_t hg hv hw (cmp_cnd.mp q)
          exact kk _ (xfork_1 g1) _ _ _ _ ⟨Gs, f, lv, hr0, g2, hl, hL, hS1, hV, hT, hZ, hH⟩
        · obtain ⟨g, g1, g2⟩ := xcond_f hg hv hw (fun w => q (cmp_cnd.mpr w))
          exact kk _ (xfork_2 g1) _ _ _ _ ⟨Gs, f, lv, hr0, g2, hl, hL, hS1, hV, hT, hZ, hH⟩
    | [], hs, h => simp at h
    | .inl (.inr _) :: _, hs, h => simp at h
    | .inr (.inl _) :: _, hs, h => simp at h
  · rename_i co off
    match S, hs, h with
    | .inl (.inl b) :: .inl (.inl a) :: S, hs, h =>
      simp only at h
      cases ht : xtgt pc off with
      | none => rw [ht] at h; cases h
      | some tg =>
        rw [ht] at h
        simp only [Option.some.injEq] at h
        subst h
        obtain ⟨Gs, f, lv, hr0, hg, hl, hL, hS, hV, hT, hZ, hH⟩ := hs
        obtain ⟨v1, st1, rfl, ⟨i, rfl, hv⟩, hS1⟩ := SR_cons hS
        obtain ⟨v2, st2, rfl, ⟨j, rfl, hw⟩, hS2⟩ := SR_cons hS1
        refine row_icmp X hd (xtgt_ok ht) (fun q => ?_) (fun q => ?_)
        · obtain ⟨g, g1, g2⟩ := xcond_t hg hw hv q
          exact kk _ (xfork_1 g1) _ _ _ _ ⟨Gs, f, lv, hr0, g2, hl, hL, hS2, hV, hT, hZ, hH⟩
        · obtain ⟨g, g1, g2⟩ := xcond_f hg hw hv q
          exact kk _ (xfork_2 g1) _ _ _ _ ⟨Gs, f, lv, hr0, g2, hl, hL, hS2, hV, hT, hZ, hH⟩
  · cases h
theorem xsw_in {n : XN} {L : List (Nat × XV)} {S V : List XV} {gi : List XI} {Gs : List Int} {z : Int} (hg : gok Gs gi) (hv : xval Gs n = some z) : ∀ (offs : List Int) (v : Int) (ys : List XC), xsw pc n L S V gi v offs = some ys → ∀ (k : Nat) (off : Int), offs[k]? = some off → z = v + k → ∃ (tg : Nat) (g : List XI), xtgt pc off = some tg ∧ gok Gs g ∧ (tg, g, L, S, V) ∈ ys
  | [], v, ys, _, k, off, hk, _ => by simp at hk
  | o :: r, v, ys, h, k, off, hk, hz => by
    simp only [xsw] at h
    cases h1 : xsw pc n L S V gi (v + 1) r with
    | none => rw [h1] at h; cases h
    | some ys' =>
      rw [h1] at h
      simp only at h
      match k, hk with
      | 0, hk =>
        simp only [List.getElem?_cons_zero, Option.some.injEq] at hk
        subst hk
        obtain ⟨a, b, e1, -, -⟩ := xiv_some hg hv
        obtain ⟨g, g1, g2⟩ := xcutR_ok (lo := v) (hi := v) hg e1 hv (by omega) (by omega)
        rw [g1] at h
        simp only at h
        cases h2 : xtgt pc o with
        | none => rw [h2] at h; cases h
        | some tg =>
          rw [h2] at h
          simp only [Option.some.injEq] at h
          exact ⟨tg, g, rfl, g2, by rw [← h]; exact List.mem_cons_self⟩
      | k + 1, hk =>
        obtain ⟨tg, g, a1, a2, a3⟩ := xsw_in hg hv r (v + 1) ys' h1 k off (by simpa using hk) (by omega)
        refine ⟨tg, g, a1, a2, ?_⟩
        cases h2 : xcutR gi n v v with
        | none => rw [h2] at h; simp only [Option.some.injEq] at h; rw [← h]; exact a3
        | some g' =>
          rw [h2] at h
          simp only at h
          cases h3 : xtgt pc o with
          | none => rw [h3] at h; cases h
          | some tg' =>
            rw [h3] at h
            simp only [Option.some.injEq] at h
            rw [← h]
            exact List.mem_cons_of_mem _ a3
theorem stepW_ok (X : CX p s m args meth c own cc nl ret) {d lw hw : Int} {offs : Array Int} {len : Nat} (hd : decode cc x.1 = .ok (.tableswitch d lw hw offs, len)) (h : stepW d lw hw offs.toList x = some xs) (hs : SAT E xt D t lo G0 f0 A s nl x H locs ls st)
    (kk : ∀ y ∈ xs, GO E xt D t lo G0 f0 A nl p l e R s m args below meth c cells slots Q y) : W p l e R s m args below meth c H locs cells slots Q (F0 m x.1 ls st) := by
  obtain ⟨pc, gi, L, S, V⟩ := x
  match S, hs, h with
  | .inl (.inl n) :: S, hs, h =>
    simp only [stepW] at h
    cases h1 : xsw pc n L S V gi lw offs.toList with
    | none => rw [h1] at h; cases h
    | some ys =>
      cases h2 : xtgt pc d with
      | none => rw [h1, h2] at h; cases h
      | some tg =>
        rw [h1, h2] at h
        simp only at h
        by_cases c1 : hw + 1 = lw + offs.toList.length
        · rw [if_pos c1] at h
          simp only [Option.some.injEq] at h
          obtain ⟨Gs, f, lv, hr0, hg, hl, hL, hS, hV, hT, hZ, hH⟩ := hs
          obtain ⟨v1, st1, rfl, ⟨i, rfl, hv⟩, hS1⟩ := SR_cons hS
          obtain ⟨a, b, e1, -, -⟩ := xiv_some hg hv
          have bb := i32_b i
          by_cases q1 : i.toInt < lw
          · obtain ⟨g, g1, g2⟩ := xcutR_ok (lo := lo32) (hi := lw - 1) hg e1 hv (by omega) (by omega)
            rw [g1] at h
            exact lv_tableOut X.1 X.2.1 hd (Or.inl q1) (xtgt_ok h2) (kk (tg, g, L, S, V) (by rw [← h]; exact List.mem_append_left _ List.mem_cons_self) _ _ _ _ ⟨Gs, f, lv, hr0, g2, hl, hL, hS1, hV, hT, hZ, hH⟩)
          · by_cases q2 : hw < i.toInt
            · obtain ⟨g, g1, g2⟩ := xcutR_ok (lo := hw + 1) (hi := hi32) hg e1 hv (by omega) (by omega)
              rw [g1] at h
              exact lv_tableOut X.1 X.2.1 hd (Or.inr q2) (xtgt_ok h2) (kk (tg, g, L, S, V) (by rw [← h]; exact List.mem_append_right _ (List.mem_append_left _ List.mem_cons_self)) _ _ _ _ ⟨Gs, f, lv, hr0, g2, hl, hL, hS1, hV, hT, hZ, hH⟩)
            · have hk : (i.toInt - lw).toNat < offs.toList.length := by omega
              obtain ⟨tg', g, a1, a2, a3⟩ := xsw_in hg hv offs.toList lw ys h1 (i.toInt - lw).toNat _ (List.getElem?_eq_getElem hk) (by omega)
              exact lv_tableIn X.1 X.2.1 hd q1 q2 (by rw [← Array.getElem?_toList]; exact List.getElem?_eq_getElem hk) (xtgt_ok a1) (kk (tg', g, L, S, V) (by rw [← h]; exact List.mem_append_right _ (List.mem_append_right _ a3)) _ _ _ _ ⟨Gs, f, lv, hr0, a2, hl, hL, hS1, hV, hT, hZ, hH⟩)
        · rw [if_neg c1] at h; cases h
end XCC
