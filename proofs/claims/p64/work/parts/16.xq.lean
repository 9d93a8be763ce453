/-! System.arraycopy of ints; answers; the run -/
def ACok (own : String) (i : Nat) : Prop := Cond.methodLink own i arraycopyName ∈ Wd ∧ Cond.native arraycopyName ∈ Wd ∧ Cond.static arraycopyName ∈ Wd ∧ Cond.initialized "java/lang/System" ∈ Wd
/-- a number that is not negative, and its highest -/
def xpos (gi : List XI) (n : XN) : Option Int := match xiv gi n with
  | some (a, b) => if 0 ≤ a then some b else none
  | none => none
theorem xpos_ok {Gs : List Int} {gi : List XI} {n : XN} {b : Int} {i : Int32} (h : xpos gi n = some b) (hg : gok Gs gi) (hv : xval Gs n = some i.toInt) : ¬ i < 0 ∧ (i.toNatClampNeg : Int) ≤ b := by
  unfold xpos at h
  cases hx : xiv gi n with
  | none => rw [hx] at h; cases h
  | some q =>
    obtain ⟨a, c⟩ := q
    rw [hx] at h
    simp only at h
    by_cases c1 : 0 ≤ a
    · rw [if_pos c1] at h
      cases h
      have q := xiv_ok hg hx hv
      refine ⟨fun w => ?_, ?_⟩
      · have := Int32.lt_iff_toInt_lt.mp w
        have z : (0 : Int32).toInt = 0 := rfl
        omega
      · show ((i.toInt.toNat : Nat) : Int) ≤ _
        omega
    · rw [if_neg c1] at h; cases h
def stepF (E : XE) (acp : Option Nat) (kc : Nat) (ins : Instr) (x : XC) : Option (List XC) := match ins with
  | .invokestatic i => match x with
    | (pc, gi, L, .inl (.inl n) :: .inl (.inl dp) :: .inr (.inl κ1) :: .inl (.inl sp) :: .inr (.inl κ0) :: S, V) => match E.1[κ0]?, E.1[κ1]? with
      | some (.inr (0, z0, .inl (l0, h0, _, _))), some (.inr (0, z1, .inl (l1, h1, [], []))) => match xpos gi n, xpos gi dp, xpos gi sp with
        | some bn, some bd, some bs => if acp = some i ∧ bs + bn ≤ (z0 : Int) ∧ bd + bn ≤ (z1 : Int) ∧ l1 ≤ l0 ∧ h0 ≤ h1 ∧ xwr E κ1 = some [] ∧ 1 ≤ kc ∧ (S.map xcat).sum ≤ 8 then some [(pc + 3, gi, L, S, V)] else none
        | _, _, _ => none
      | _, _ => none
    | _ => none
  | _ => none
theorem acw : nativeFrameWords "java/lang/System" "arraycopy" 5 + 11 + 8 ≤ 60 := by decide +kernel
section XQ
variable {E : XE} {xt : XX} {D : va_G} {t : Nat → ClassId} {lo : Nat} {G0 : List Int} {f0 : Nat → va_E} {A : Nat → Prop}
variable {p : Program} {l : Launch} {e : Env} {R : Room} {s : State} {m : MethodId} {args : Array Value} {below : List Frame} {meth : Method} {c : Code} {H : Heap} {locs : List Loc} {cells slots : Nat} {Q : State → Prop}
variable {cc : ByteArray} {own : String} {nl : Nat} {ret : Option FieldType} {ls : Array Slot} {st : List Value} {x : XC} {xs : List XC} {ins : Instr} {pc : Nat}
theorem stepF_ok {acp : Option Nat} {kc : Nat} (X : CX p s m args meth c own cc nl ret) (hac : ∀ i, acp = some i → ACok own i) (hw : TWX E xt lo) (hRk : kc ≤ R.frames ∧ 60 * kc ≤ R.locals) (hd : decode cc x.1 = .ok (ins, xlen ins)) (h : stepF E acp kc ins x = some xs) (hs : SAT E xt D t lo G0 f0 A s nl x H locs ls st)
    (kk : ∀ y ∈ xs, GO E xt D t lo G0 f0 A nl p l e R s m args below meth c cells slots Q y) : W p l e R s m args below meth c H locs cells slots Q (F0 m x.1 ls st) := by
  unfold stepF at h
  split at h
  · rename_i i
    split at h
    · rename_i pc gi L n dp κ1 sp κ0 S V
      split at h
      · rename_i z0 l0 h0 tk0 bl0 z1 l1 h1 e0 e1
        split at h
        · rename_i bn bd bs b1 b2 b3
          split at h
          · rename_i c1
            obtain ⟨c1, c2, c3, c4, c5, c6, c7, c8⟩ := c1
            simp only [Option.some.injEq] at h
            subst h
            obtain ⟨a1, a2, a3, a4⟩ := hac i c1
            obtain ⟨Gs, f, lv, hr0, hg, hl, hL, hS, hV, hT, hZ, hH⟩ := hs
            obtain ⟨v1, st1, rfl, ⟨i1, rfl, w1⟩, hS1⟩ := SR_cons hS
            obtain ⟨v2, st2, rfl, ⟨i2, rfl, w2⟩, hS2⟩ := SR_cons hS1
            obtain ⟨v3, st3, rfl, ⟨r1, rfl, hB1⟩, hS3⟩ := SR_cons hS2
            obtain ⟨v4, st4, rfl, ⟨i3, rfl, w3⟩, hS4⟩ := SR_cons hS3
            obtain ⟨v5, st5, rfl, ⟨r0, rfl, hB0⟩, hS5⟩ := SR_cons hS4
            obtain ⟨o1, rfl, ho1⟩ := xB_in hB1 e1
            obtain ⟨o0, rfl, ho0⟩ := xB_in hB0 e0
            obtain ⟨κ2, k1, k2⟩ := hT o0 κ0 ho0
            rw [e0] at k1
            cases k1
            simp only [cok] at k2
            rw [if_neg (by decide)] at k2
            obtain ⟨g0, u1, u2, -⟩ := k2
            obtain ⟨κ2, k1, k2⟩ := hT o1 κ1 ho1
            rw [e1] at k1
            cases k1
            simp only [cok] at k2
            rw [if_neg (by decide)] at k2
            obtain ⟨g1, u3, u4, -⟩ := k2
            obtain ⟨p1, p2⟩ := xpos_ok b1 hg w1
            obtain ⟨p3, p4⟩ := xpos_ok b2 hg w2
            obtain ⟨p5, p6⟩ := xpos_ok b3 hg w3
            have hat : px_at lo E.2.1.length f (lo + o0) (.inl (t 0, z0, .inl g0)) := ⟨⟨by omega, by have := xB_lt ho0; omega⟩, u1⟩
            have hbt : px_at lo E.2.1.length f (lo + o1) (.inl (t 0, z1, .inl g1)) := ⟨⟨by omega, by have := xB_lt ho1; omega⟩, u3⟩
            have hcat : (st5.map fun v => v.category).sum ≤ 8 := by rw [SR_cat hS5]; exact c8
            have haw := acw
            refine va_copyi (D := D) (cl := vwCl) (ws := px_W lo E.2.1.length f) X.1 X.2.1 (by rw [X.2.2.1, hl.1]) X.2.2.2.1 (X.2.2.2.2.1 _ a1) (X.2.2.2.2.1 _ a2) (X.2.2.2.2.1 _ a3) (X.2.2.2.2.1 _ a4) hH.1 hH.2.1 (px_D hH.2.2.1.1) hH.2.2.2 (lo + o0 - lo) (lo + o1 - lo) 0 0 (ty := .int) (by rw [px_get hat.1, hat.2]) (by rw [px_get hbt.1, hbt.2]) rfl rfl rfl p5 p3 p1 (by omega) (by omega) (fun _ _ => rfl) (by omega) (by omega) hd ?_
            intro H1 locs1 hP _ hS'
            rw [px_set hbt.1] at hP
            refine kk _ List.mem_cons_self _ _ _ _ ⟨Gs, _, lv, hr0, hg, hl, hL, hS5, VOK_up2 hw.1 hV ho1 e1 (fun _ _ _ _ q => by cases q; exact Or.inl rfl), TYP_up hT ho1 e1 ?_, FZ_up hw hZ ho1 c6 (fun k ⟨q, hq, _⟩ => absurd hq List.not_mem_nil), ⟨hH.1, hP, hH.2.2.1, hS'⟩⟩
            simp only [cok]
            rw [if_neg (by decide)]
            refine ⟨_, rfl, fun j hj => ?_, fun i b hb => by simp at hb⟩
            by_cases cj : i2.toNatClampNeg ≤ j ∧ j < i2.toNatClampNeg + i1.toNatClampNeg
            · rw [pk_cpy_in cj.1 cj.2]
              have := u2 (i3.toNatClampNeg + (j - i2.toNatClampNeg)) (by omega)
              omega
            · rw [pk_cpy_out (by omega)]
              exact u4 j hj
          · cases h
        · cases h
      · cases h
    · cases h
  · cases h
end XQ
/-- the answer's kind: 0 int, 1 boolean, 2 long, 3 none, 4 a reference -/
def RTok (rt : Nat) (ret : Option FieldType) : Prop := match rt with
  | 0 => ret = some .int
  | 1 => ret = some .boolean
  | 2 => ret = some .long
  | 3 => ret = none
  | _ => ∃ C, ret = some (.object C)
def xcovs : List XI → List (Int × Int) → Bool
  | _, [] => true
  | (l, h, _) :: gi, (u, w) :: bs => decide (u ≤ l) && decide (h ≤ w) && xcovs gi bs
  | [], _ :: _ => false
def xretf (nE : Nat) (gi : List XI) (P : XP) (x : XV) : Bool := match P, x with
  | .inr (.inr (.inl n)), .inl (.inl n') => n == n' && (match n.1 with | none => true | some g => decide (g < nE))
  | .inr (.inr (.inr n)), .inl (.inr n') => n == n' && (match n.1 with | none => true | some g => decide (g < nE))
  | P, x => xfits gi P x
def xretL (nE : Nat) (gi : List XI) : List XP → List XV → Bool
  | [], [] => true
  | P :: ps, x :: xs => xretf nE gi P x && xretL nE gi ps xs
  | _, _ => false
def xend (E : XE) (M : XM) (rt : Nat) (ins : Instr) (x : XC) : Bool :=
  let go (r : Option XV) (gi : List XI) (V : List XV) : Bool := decide (V.length = E.2.2.2.length) && M.2.2.1.any (fun o => xcovs gi o.1 && xretL (M.1.length + M.2.1.length) gi o.2.2.1 V && xrch gi (xids (M.1.length + M.2.1.length) ++ (V.map xnum ++ r.toList.map xnum)) o.2.2.2 && (match o.2.1, r with
    | none, none => true
    | some P, some v => xretf (M.1.length + M.2.1.length) gi P v
    | _, _ => false))
  match ins, x with
  | .ireturn, (_, gi, _, [.inl (.inl n)], V) => (rt == 0 || (rt == 1 && xfits gi (.inl (.inl (0, 1))) (.inl (.inl n)))) && go (some (.inl (.inl n))) gi V
  | .lreturn, (_, gi, _, [.inl (.inr n)], V) => rt == 2 && go (some (.inl (.inr n))) gi V
  | .return_, (_, gi, _, [], V) => rt == 3 && go none gi V
  | .areturn, (_, gi, _, [.inr (.inl k)], V) => rt == 4 && go (some (.inr (.inl k))) gi V
  | _, _ => false
/-- of the class: constants, field links, call links, arraycopy's place; of the method: locals, depth; of all: depths, contracts -/
abbrev XG : Type := (XQ × XF × XL × Option Nat) × (Nat × Nat) × (List Nat × List (Nat × XM))
def xstep (E : XE) (g : XG) (ins : Instr) (len : Nat) (x : XC) : Option (List XC) := match ins with
  | .tableswitch d lo hi offs => stepW d lo hi offs.toList x
  | _ => if len = xlen ins then (match stepB g.2.1.1 g.1.1 ins x with
    | some r => some r
    | none => match stepD E g.1.2.1 ins x with
      | some r => some r
      | none => match stepC ins x with
        | some r => some r
        | none => match stepA ins x with
          | some r => some r
          | none => match stepE g.2.1.2 g.2.2.1 E g.1.2.2.1 g.2.2.2 ins x with
            | some r => some r
            | none => match stepG g.2.1.2 g.1.2.2.1 ins x with
              | some r => some r
              | none => match stepH g.2.1.2 g.1.2.2.1 ins x with
                | some r => some r
                | none => stepF E g.1.2.2.2 g.2.1.2 ins x) else none
def nforce {α : Type} (n : Nat) (k : Nat → α) : α := match n with
  | 0 => k 0
  | m + 1 => k (m + 1)
theorem nforce_eq {α : Type} (n : Nat) (k : Nat → α) : nforce n k = k n := by cases n <;> rfl
noncomputable def xrun (E : XE) (g : XG) (M : XM) (rt : Nat) (cc : ByteArray) (fuel : Nat) : XC → Bool := Nat.rec (motive := fun _ => XC → Bool) (fun _ => false) (fun _ ih x => nforce x.1 (fun pc => match decode cc pc with
  | .ok (ins, len) => if xend E M rt ins (pc, x.2) = true then decide (len = 1) else (match xstep E g ins len (pc, x.2) with
    | some ys => ys.all ih
    | none => false)
  | .error _ => false)) fuel
