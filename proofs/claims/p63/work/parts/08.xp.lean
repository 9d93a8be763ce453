/-! STEPS: numbers and the stack; constants and locals -/
def stepA (ins : Instr) (x : XC) : Option (List XC) := match ins with
  | .iadd => bin32 xadd x
  | .isub => bin32 xsub x
  | .imul => bin32 xmul x
  | .iand => bin32 (xcc (· &&& ·) xand) x
  | .ior => bin32 (xcc (· ||| ·) xor_) x
  | .ixor => bin32 (xcc (· ^^^ ·) xany) x
  | .ishl => bin32 (xcc (fun x y => x <<< (y &&& 31)) xshl) x
  | .ishr => bin32 (xcc (fun x y => x >>> (y &&& 31)) xshr) x
  | .iushr => bin32 (xcc (fun x y => (x.toUInt32 >>> (y.toUInt32 &&& Int32.toUInt32 31)).toInt32) xany) x
  | .idiv => bin32 (xguard (xcc (· / ·) xdiv)) x
  | .irem => bin32 (xguard (xcc (fun x y => x - x / y * y) xrem)) x
  | .ladd => bin64 xaddL x
  | .lsub => bin64 xsubL x
  | .lmul => bin64 xmulL x
  | .land => bin64 (xccL (· &&& ·) xanyL) x
  | .lor => bin64 (xccL (· ||| ·) xanyL) x
  | .ldiv => bin64 (xguard (xccL (· / ·) xdivL)) x
  | .lrem => bin64 (xguard (xccL (fun x y => x - x / y * y) xanyL)) x
  | .ineg => un32 xneg x
  | .i2b => un32 (xnar (-128) 127) x
  | .i2s => un32 (xnar (-32768) 32767) x
  | .i2l => match x with
    | (pc, gi, L, .inl (.inl a) :: S, V) => some [(pc + 1, gi, L, .inl (.inr a) :: S, V)]
    | _ => none
  | .l2i => match x with
    | (pc, gi, L, .inl (.inr a) :: S, V) => match xnar lo32 hi32 gi a with
      | some (gi', r) => some [(pc + 1, gi', L, .inl (.inl r) :: S, V)]
      | none => none
    | _ => none
  | .lcmp => match x with
    | (pc, gi, L, .inl (.inr b) :: .inl (.inr a) :: S, V) => some [(pc + 1, gi, L, .inr (.inr (a, b)) :: S, V)]
    | _ => none
  | .lshl => match x with
    | (pc, gi, L, .inl (.inl b) :: .inl (.inr a) :: S, V) => some [(pc + 1, (xall64 gi).1, L, .inl (.inr (xall64 gi).2) :: S, V)]
    | _ => none
  | .dup => match x with
    | (pc, gi, L, a :: S, V) => if xcat a = 1 then some [(pc + 1, gi, L, a :: a :: S, V)] else none
    | _ => none
  | .pop => match x with
    | (pc, gi, L, a :: S, V) => if xcat a = 1 then some [(pc + 1, gi, L, S, V)] else none
    | _ => none
  | .dup2 => match x with
    | (pc, gi, L, a :: b :: S, V) => if xcat a = 1 ∧ xcat b = 1 then some [(pc + 1, gi, L, a :: b :: a :: b :: S, V)] else none
    | _ => none
  | _ => none
/-- a local -/
def xget : List (Nat × XV) → Nat → Option XV
  | [], _ => none
  | (j, x) :: L, i => if j = i then some x else xget L i
def xput1 (L : List (Nat × XV)) (i : Nat) (x : XV) : List (Nat × XV) := (i, x) :: L.filter (fun q => !(q.1 == i) && !(q.1 + 1 == i && xcat q.2 == 2))
def xput2 (L : List (Nat × XV)) (i : Nat) (x : XV) : List (Nat × XV) := (i, x) :: L.filter (fun q => !(q.1 == i) && (!(q.1 == i + 1) && !(q.1 + 1 == i && xcat q.2 == 2)))
/-- numbers of the class's constants: (place, int), (place, long) -/
abbrev XQ : Type := List (Nat × Int) × List (Nat × Int)
def xlook : List (Nat × Int) → Nat → Option Int
  | [], _ => none
  | (j, x) :: L, i => if j = i then some x else xlook L i
def xld (x : XC) (i d k : Nat) : Option (List XC) := match x with
  | (pc, gi, L, S, V) => match xget L i with
    | some (.inl (.inl n)) => if k = 0 then some [(pc + d, gi, L, .inl (.inl n) :: S, V)] else none
    | some (.inl (.inr n)) => if k = 1 then some [(pc + d, gi, L, .inl (.inr n) :: S, V)] else none
    | some (.inr (.inl n)) => if k = 2 then some [(pc + d, gi, L, .inr (.inl n) :: S, V)] else none
    | _ => none
def xsto (nl : Nat) (x : XC) (i d k : Nat) : Option (List XC) := match x with
  | (pc, gi, L, .inl (.inl n) :: S, V) => if k = 0 ∧ i < nl then some [(pc + d, gi, xput1 L i (.inl (.inl n)), S, V)] else none
  | (pc, gi, L, .inl (.inr n) :: S, V) => if k = 1 ∧ i + 1 < nl then some [(pc + d, gi, xput2 L i (.inl (.inr n)), S, V)] else none
  | (pc, gi, L, .inr (.inl n) :: S, V) => if k = 2 ∧ i < nl then some [(pc + d, gi, xput1 L i (.inr (.inl n)), S, V)] else none
  | _ => none
def xpui (x : XC) (d : Nat) (n : Int) : Option (List XC) := match x with
  | (pc, gi, L, S, V) => if lo32 ≤ n ∧ n ≤ hi32 then some [(pc + d, gi, L, .inl (.inl (none, n)) :: S, V)] else none
def xpul (x : XC) (d : Nat) (n : Int) : Option (List XC) := match x with
  | (pc, gi, L, S, V) => if lo64 ≤ n ∧ n ≤ hi64 then some [(pc + d, gi, L, .inl (.inr (none, n)) :: S, V)] else none
def stepB (nl : Nat) (q : XQ) (ins : Instr) (x : XC) : Option (List XC) :=
  match ins with
  | .iconst n => xpui x 1 n
  | .bipush n => if -128 ≤ n ∧ n ≤ 127 then xpui x 2 n else none
  | .sipush n => if -32768 ≤ n ∧ n ≤ 32767 then xpui x 3 n else none
  | .lconst n => xpul x 1 ((n : Nat) : Int)
  | .ldc i => match xlook q.1 i with
    | some v => xpui x 2 v
    | none => none
  | .ldc_w i => match xlook q.1 i with
    | some v => xpui x 3 v
    | none => none
  | .ldc2_w i => match xlook q.2 i with
    | some v => xpul x 3 v
    | none => none
  | .iload_n i => xld x i 1 0
  | .iload i => xld x i 2 0
  | .lload_n i => xld x i 1 1
  | .lload i => xld x i 2 1
  | .aload_n i => xld x i 1 2
  | .aload i => xld x i 2 2
  | .istore_n i => xsto nl x i 1 0
  | .istore i => xsto nl x i 2 0
  | .lstore_n i => xsto nl x i 1 1
  | .lstore i => xsto nl x i 2 1
  | .astore_n i => xsto nl x i 1 2
  | .astore i => xsto nl x i 2 2
  | .iinc i n => match x with
    | (pc, gi, L, S, V) => match xget L i with
      | some (.inl (.inl a)) => match xaddc lo32 hi32 gi a n with
        | some (gi', r) => if i < nl ∧ lo32 ≤ n ∧ n ≤ hi32 then some [(pc + 3, gi', xput1 L i (.inl (.inl r)), S, V)] else none
        | none => none
      | _ => none
  | _ => none
def XQok (own : String) (q : XQ) : Prop := (∀ i v, xlook q.1 i = some v → Cond.constant own i (Int32.ofInt v) ∈ Wd) ∧ (∀ i v, xlook q.2 i = some v → Cond.constantLong own i (Int64.ofInt v) ∈ Wd)
theorem xget_ok {B : Nat → Nat → Prop} {Gs : List Int} {i : Nat} {x : XV} : ∀ {L : List (Nat × XV)} {lv : List (Nat × Value)}, LR B Gs L lv → xget L i = some x → ∃ (k : Nat) (v : Value), lv[k]? = some (i, v) ∧ xok B Gs x v
  | (j, y) :: L, (j', v) :: lv, ⟨h1, h2, h3⟩, h => by
    simp only [xget] at h
    by_cases c : j = i
    · rw [if_pos c] at h
      cases h
      subst c; subst h1
      exact ⟨0, v, rfl, h2⟩
    · rw [if_neg c] at h
      obtain ⟨k, w, a, b⟩ := xget_ok h3 h
      exact ⟨k + 1, w, a, b⟩
theorem LR_fil {B : Nat → Nat → Prop} {Gs : List Int} {P : Nat × XV → Bool} {P' : Nat × Value → Bool} (hP : ∀ i x v, xok B Gs x v → P (i, x) = P' (i, v)) : ∀ {L : List (Nat × XV)} {lv : List (Nat × Value)}, LR B Gs L lv → LR B Gs (L.filter P) (lv.filter P')
  | [], [], _ => trivial
  | (j, y) :: L, (j', v) :: lv, ⟨h1, h2, h3⟩ => by
    subst h1
    have e := hP j y v h2
    by_cases c : P (j, y) = true
    · rw [List.filter_cons_of_pos c, List.filter_cons_of_pos (by rw [← e]; exact c)]
      exact ⟨rfl, h2, LR_fil hP h3⟩
    · rw [List.filter_cons_of_neg c, List.filter_cons_of_neg (by rw [← e]; exact c)]
      exact LR_fil hP h3
theorem LR_put1 {B : Nat → Nat → Prop} {Gs : List Int} {L : List (Nat × XV)} {lv : List (Nat × Value)} {i : Nat} {x : XV} {v : Value} (h : LR B Gs L lv) (hx : xok B Gs x v) : LR B Gs (xput1 L i x) ((i, v) :: lv.filter (fun q => !(q.1 == i) && !(q.1 + 1 == i && q.2.category == 2))) :=
  ⟨rfl, hx, LR_fil (fun j y w hw => by rw [xcat_ok hw]) h⟩
theorem LR_put2 {B : Nat → Nat → Prop} {Gs : List Int} {L : List (Nat × XV)} {lv : List (Nat × Value)} {i : Nat} {x : XV} {v : Value} (h : LR B Gs L lv) (hx : xok B Gs x v) : LR B Gs (xput2 L i x) ((i, v) :: lv.filter (fun q => !(q.1 == i) && (!(q.1 == i + 1) && !(q.1 + 1 == i && q.2.category == 2)))) :=
  ⟨rfl, hx, LR_fil (fun j y w hw => by rw [xcat_ok hw]) h⟩
section XP
variable {E : XE} {xt : XX} {D : va_G} {t : Nat → ClassId} {lo : Nat} {G0 : List Int} {f0 : Nat → va_E} {A : Nat → Prop}
variable {p : Program} {l : Launch} {e : Env} {R : Room} {s : State} {m : MethodId} {args : Array Value} {below : List Frame} {meth : Method} {c : Code} {H : Heap} {locs : List Loc} {cells slots : Nat} {Q : State → Prop}
variable {cc : ByteArray} {own : String} {nl : Nat} {ret : Option FieldType} {ls : Array Slot} {st : List Value} {x : XC} {xs : List XC} {ins : Instr}
theorem stepA_ok (X : CX p s m args meth c own cc nl ret) (hd : decode cc x.1 = .ok (ins, xlen ins)) (h : stepA ins x = some xs) (hs : SAT E xt D t lo G0 f0 A s nl x H locs ls st)
    (kk : ∀ y ∈ xs, GO E xt D t lo G0 f0 A nl p l e R s m args below meth c cells slots Q y) : W p l e R s m args below meth c H locs cells slots Q (F0 m x.1 ls st) := by
  unfold stepA at h
  split at h
  · exact bin32_ok xadd_ok h hs (fun a b rest k => lv_iadd X.1 X.2.1 hd k) kk
  · exact bin32_ok xsub_ok h hs (fun a b rest k => lv_isub X.1 X.2.1 hd k) kk
  · exact bin32_ok xmul_ok h hs (fun a b rest k => lv_imul X.1 X.2.1 hd k) kk
  · exact bin32_ok (xcc_ok xand_ok) h hs (fun a b rest k => lv_iand X.1 X.2.1 hd k) kk
  · exact bin32_ok (xcc_ok xor__ok) h hs (fun a b rest k => lv_ior X.1 X.2.1 hd k) kk
  · exact bin32_ok (xcc_ok (xany_ok _)) h hs (fun a b rest k => lv_ixor X.1 X.2.1 hd k) kk
  · exact bin32_ok (xcc_ok xshl_ok) h hs (fun a b rest k => lv_ishl X.1 X.2.1 hd k) kk
  · exact bin32_ok (xcc_ok xshr_ok) h hs (fun a b rest k => lv_ishr X.1 X.2.1 hd k) kk
  · exact bin32_ok (xcc_ok (xany_ok _)) h hs (fun a b rest k => lv_iushr X.1 X.2.1 hd rfl k) kk
  · exact bin32g_ok (xcc_ok xdiv_ok) h hs (fun a b rest hn k => lv_idiv X.1 X.2.1 hd hn k) kk
  · exact bin32g_ok (xcc_ok xrem_ok) h hs (fun a b rest hn k => lv_irem X.1 X.2.1 hd hn k) kk
  · exact bin64_ok xaddL_ok h hs (fun a b rest k => lv_ladd X.1 X.2.1 hd k) kk
  · exact bin64_ok xsubL_ok h hs (fun a b rest k => lv_lsub X.1 X.2.1 hd k) kk
  · exact bin64_ok xmulL_ok h hs (fun a b rest k => lv_lmul X.1 X.2.1 hd k) kk
  · exact bin64_ok (xccL_ok (xanyL_ok _)) h hs (fun a b rest k => lv_land X.1 X.2.1 hd k) kk
  · exact bin64_ok (xccL_ok (xanyL_ok _)) h hs (fun a b rest k => lv_lor X.1 X.2.1 hd k) kk
  · exact bin64g_ok (xccL_ok xdivL_ok) h hs (fun a b rest hn k => lv_ldiv X.1 X.2.1 hd hn k) kk
  · exact bin64g_ok (xccL_ok (xanyL_ok _)) h hs (fun a b rest hn k => lv_lrem X.1 X.2.1 hd hn k) kk
  · exact un32_ok xneg_ok h hs (fun a rest k => lv_ineg X.1 X.2.1 hd k) kk
  · exact un32_ok i2b_ok h hs (fun a rest k => lv_i2b X.1 X.2.1 hd rfl k) kk
  · exact un32_ok i2s_ok h hs (fun a rest k => lv_i2s X.1 X.2.1 hd rfl k) kk
  · obtain ⟨pc, gi, L, S, V⟩ := x
    match S, h with
    | .inl (.inl a) :: S, h =>
      obtain ⟨Gs, f, lv, hr0, hg, hl, hL, hS, hV, hT, hZ, hH⟩ := hs
      obtain ⟨v2, st2, rfl, ⟨ia, rfl, va⟩, hS2⟩ := SR_cons hS
      simp only [Option.some.injEq] at h
      subst h
      exact lv_i2l X.1 X.2.1 hd rfl (kk _ List.mem_cons_self _ _ _ _ ⟨Gs, f, lv, hr0, hg, hl, hL, ⟨⟨_, rfl, by rw [Int32.toInt_toInt64]; exact va⟩, hS2⟩, hV, hT, hZ, hH⟩)
  · obtain ⟨pc, gi, L, S, V⟩ := x
    match S, h with
    | .inl (.inr a) :: S, h =>
      obtain ⟨Gs, f, lv, ⟨r0, hr0⟩, hg, hl, hL, hS, hV, hT, hZ, hH⟩ := hs
      obtain ⟨v2, st2, rfl, ⟨ia, rfl, va⟩, hS2⟩ := SR_cons hS
      simp only at h
      cases ho : xnar lo32 hi32 gi a with
      | none => rw [ho] at h; cases h
      | some q =>
        obtain ⟨gi', r⟩ := q
        rw [ho] at h
        simp only [Option.some.injEq] at h
        subst h
        obtain ⟨tt, g1, g2⟩ := l2i_ok ho hg va
        exact lv_l2i X.1 X.2.1 hd rfl (kk _ List.mem_cons_self _ _ _ _ ⟨Gs ++ tt, f, lv, ⟨r0 ++ tt, by rw [hr0, List.append_assoc]⟩, g1, hl, LR_mono hL, ⟨⟨_, rfl, g2⟩, SR_mono hS2⟩, VOK_mono hV, hT, hZ, hH⟩)
  · obtain ⟨pc, gi, L, S, V⟩ := x
    match S, h with
    | .inl (.inr b) :: .inl (.inr a) :: S, h =>
      obtain ⟨Gs, f, lv, hr0, hg, hl, hL, hS, hV, hT, hZ, hH⟩ := hs
      obtain ⟨v1, st1, rfl, ⟨ib, rfl, vb⟩, hS1⟩ := SR_cons hS
      obtain ⟨v2, st2, rfl, ⟨ia, rfl, va⟩, hS2⟩ := SR_cons hS1
      simp only [Option.some.injEq] at h
      subst h
      exact W.lcmp X.1 X.2.1 hd (kk _ List.mem_cons_self _ _ _ _ ⟨Gs, f, lv, hr0, hg, hl, hL, ⟨⟨ia, ib, rfl, va, vb⟩, hS2⟩, hV, hT, hZ, hH⟩)
  · obtain ⟨pc, gi, L, S, V⟩ := x
    match S, h with
    | .inl (.inl b) :: .inl (.inr a) :: S, h =>
      obtain ⟨Gs, f, lv, ⟨r0, hr0⟩, hg, hl, hL, hS, hV, hT, hZ, hH⟩ := hs
      obtain ⟨v1, st1, rfl, ⟨ib, rfl, vb⟩, hS1⟩ := SR_cons hS
      obtain ⟨v2, st2, rfl, ⟨ia, rfl, va⟩, hS2⟩ := SR_cons hS1
      simp only [Option.some.injEq] at h
      subst h
      have bb := i64_b (ia <<< (ib.toInt64 &&& 63))
      obtain ⟨tt, g1, g2⟩ := xmk_ok0 (lo := lo64) (hi := hi64) hg bb.1 bb.2
      exact lv_lshl X.1 X.2.1 hd rfl (kk _ List.mem_cons_self _ _ _ _ ⟨Gs ++ tt, f, lv, ⟨r0 ++ tt, by rw [hr0, List.append_assoc]⟩, g1, hl, LR_mono hL, ⟨⟨_, rfl, g2⟩, SR_mono hS2⟩, VOK_mono hV, hT, hZ, hH⟩)
  · obtain ⟨pc, gi, L, S, V⟩ := x
    match S, h with
    | a :: S, h =>
      simp only at h
      by_cases c1 : xcat a = 1
      · rw [if_pos c1] at h
        simp only [Option.some.injEq] at h
        subst h
        obtain ⟨Gs, f, lv, hr0, hg, hl, hL, hS, hV, hT, hZ, hH⟩ := hs
        obtain ⟨v2, st2, rfl, hv, hS2⟩ := SR_cons hS
        exact lv_dup X.1 X.2.1 hd (by rw [xcat_ok hv]; exact c1) (kk _ List.mem_cons_self _ _ _ _ ⟨Gs, f, lv, hr0, hg, hl, hL, ⟨hv, hv, hS2⟩, hV, hT, hZ, hH⟩)
      · rw [if_neg c1] at h; cases h
  · obtain ⟨pc, gi, L, S, V⟩ := x
    match S, h with
    | a :: S, h =>
      simp only at h
      by_cases c1 : xcat a = 1
      · rw [if_pos c1] at h
        simp only [Option.some.injEq] at h
        subst h
        obtain ⟨Gs, f, lv, hr0, hg, hl, hL, hS, hV, hT, hZ, hH⟩ := hs
        obtain ⟨v2, st2, rfl, hv, hS2⟩ := SR_cons hS
        exact lv_pop X.1 X.2.1 hd (by rw [xcat_ok hv]; exact c1) (kk _ List.mem_cons_self _ _ _ _ ⟨Gs, f, lv, hr0, hg, hl, hL, hS2, hV, hT, hZ, hH⟩)
      · rw [if_neg c1] at h; cases h
  · obtain ⟨pc, gi, L, S, V⟩ := x
    match S, h with
    | a :: b :: S, h =>
      simp only at h
      by_cases c1 : xcat a = 1 ∧ xcat b = 1
      · rw [if_pos c1] at h
        simp only [Option.some.injEq] at h
        subst h
        obtain ⟨Gs, f, lv, hr0, hg, hl, hL, hS, hV, hT, hZ, hH⟩ := hs
        obtain ⟨v1, st1, rfl, hv1, hS1⟩ := SR_cons hS
        obtain ⟨v2, st2, rfl, hv2, hS2⟩ := SR_cons hS1
        exact lv_dup2_11 X.1 X.2.1 hd (by rw [xcat_ok hv1]; exact c1.1) (by rw [xcat_ok hv2]; exact c1.2) (kk _ List.mem_cons_self _ _ _ _ ⟨Gs, f, lv, hr0, hg, hl, hL, ⟨hv1, hv2, hv1, hv2, hS2⟩, hV, hT, hZ, hH⟩)
      · rw [if_neg c1] at h; cases h
  · cases h
theorem xpui_ok {d : Nat} {n : Int} {v : Int32} (hv : v.toInt = n) (h : xpui x d n = some xs) (hs : SAT E xt D t lo G0 f0 A s nl x H locs ls st)
    (row : W p l e R s m args below meth c H locs cells slots Q (F0 m (x.1 + d) ls (.int v :: st)) → W p l e R s m args below meth c H locs cells slots Q (F0 m x.1 ls st))
    (kk : ∀ y ∈ xs, GO E xt D t lo G0 f0 A nl p l e R s m args below meth c cells slots Q y) : W p l e R s m args below meth c H locs cells slots Q (F0 m x.1 ls st) := by
  obtain ⟨pc, gi, L, S, V⟩ := x
  simp only [xpui] at h
  by_cases c1 : lo32 ≤ n ∧ n ≤ hi32
  · rw [if_pos c1] at h
    simp only [Option.some.injEq] at h
    subst h
    obtain ⟨Gs, f, lv, hr0, hg, hl, hL, hS, hV, hT, hZ, hH⟩ := hs
    exact row (kk _ List.mem_cons_self _ _ _ _ ⟨Gs, f, lv, hr0, hg, hl, hL, ⟨⟨_, rfl, by simp only [xval]; rw [hv]⟩, hS⟩, hV, hT, hZ, hH⟩)
  · rw [if_neg c1] at h; cases h
theorem xpul_ok {d : Nat} {n : Int} {v : Int64} (hv : v.toInt = n) (h : xpul x d n = some xs) (hs : SAT E xt D t lo G0 f0 A s nl x H locs ls st)
    (row : W p l e R s m args below meth c H locs cells slots Q (F0 m (x.1 + d) ls (.long v :: st)) → W p l e R s m args below meth c H locs cells slots Q (F0 m x.1 ls st))
    (kk : ∀ y ∈ xs, GO E xt D t lo G0 f0 A nl p l e R s m args below meth c cells slots Q y) : W p l e R s m args below meth c H locs cells slots Q (F0 m x.1 ls st) := by
  obtain ⟨pc, gi, L, S, V⟩ := x
  simp only [xpul] at h
  by_cases c1 : lo64 ≤ n ∧ n ≤ hi64
  · rw [if_pos c1] at h
    simp only [Option.some.injEq] at h
    subst h
    obtain ⟨Gs, f, lv, hr0, hg, hl, hL, hS, hV, hT, hZ, hH⟩ := hs
    exact row (kk _ List.mem_cons_self _ _ _ _ ⟨Gs, f, lv, hr0, hg, hl, hL, ⟨⟨_, rfl, by simp only [xval]; rw [hv]⟩, hS⟩, hV, hT, hZ, hH⟩)
  · rw [if_neg c1] at h; cases h
theorem xpui_b {d : Nat} {n : Int} (h : xpui x d n = some xs) : (Int32.ofInt n).toInt = n := by
  obtain ⟨pc, gi, L, S, V⟩ := x
  simp only [xpui] at h
  by_cases c1 : lo32 ≤ n ∧ n ≤ hi32
  · have z1 : lo32 = -2147483648 ∧ hi32 = 2147483647 := ⟨rfl, rfl⟩
    exact Int32.toInt_ofInt_of_le (by omega) (by omega)
  · rw [if_neg c1] at h; cases h
theorem xpul_b {d : Nat} {n : Int} (h : xpul x d n = some xs) : (Int64.ofInt n).toInt = n := by
  obtain ⟨pc, gi, L, S, V⟩ := x
  simp only [xpul] at h
  by_cases c1 : lo64 ≤ n ∧ n ≤ hi64
  · have z1 : lo64 = -9223372036854775808 ∧ hi64 = 9223372036854775807 := ⟨rfl, rfl⟩
    exact Int64.toInt_ofInt_of_le (by omega) (by omega)
  · rw [if_neg c1] at h; cases h
theorem xld_ok {i d k : Nat} (h : xld x i d k = some xs) (hs : SAT E xt D t lo G0 f0 A s nl x H locs ls st)
    (r0 : k = 0 → ∀ v : Int32, ls[i]? = some (.val (.int v)) → W p l e R s m args below meth c H locs cells slots Q (F0 m (x.1 + d) ls (.int v :: st)) → W p l e R s m args below meth c H locs cells slots Q (F0 m x.1 ls st))
    (r1 : k = 1 → ∀ v : Int64, ls[i]? = some (.val (.long v)) → W p l e R s m args below meth c H locs cells slots Q (F0 m (x.1 + d) ls (.long v :: st)) → W p l e R s m args below meth c H locs cells slots Q (F0 m x.1 ls st))
    (r2 : k = 2 → ∀ v : Nat, ls[i]? = some (.val (.ref v)) → W p l e R s m args below meth c H locs cells slots Q (F0 m (x.1 + d) ls (.ref v :: st)) → W p l e R s m args below meth c H locs cells slots Q (F0 m x.1 ls st))
    (kk : ∀ y ∈ xs, GO E xt D t lo G0 f0 A nl p l e R s m args below meth c cells slots Q y) : W p l e R s m args below meth c H locs cells slots Q (F0 m x.1 ls st) := by
  obtain ⟨pc, gi, L, S, V⟩ := x
  simp only [xld] at h
  obtain ⟨Gs, f, lv, hr0, hg, hl, hL, hS, hV, hT, hZ, hH⟩ := hs
  cases hx : xget L i with
  | none => rw [hx] at h; cases h
  | some y =>
    obtain ⟨q, w, h1, h2⟩ := xget_ok hL hx
    rw [hx] at h
    match y, h2, h with
    | .inl (.inl n), h2, h =>
      simp only at h
      by_cases c1 : k = 0
      · rw [if_pos c1] at h
        simp only [Option.some.injEq] at h
        subst h
        have h3 := h2
        obtain ⟨v, rfl, hv⟩ := h2
        exact r0 c1 v (lv_at hl q h1) (kk _ List.mem_cons_self _ _ _ _ ⟨Gs, f, lv, hr0, hg, hl, hL, ⟨h3, hS⟩, hV, hT, hZ, hH⟩)
      · rw [if_neg c1] at h; cases h
    | .inl (.inr n), h2, h =>
      simp only at h
      by_cases c1 : k = 1
      · rw [if_pos c1] at h
        simp only [Option.some.injEq] at h
        subst h
        have h3 := h2
        obtain ⟨v, rfl, hv⟩ := h2
        exact r1 c1 v (lv_at hl q h1) (kk _ List.mem_cons_self _ _ _ _ ⟨Gs, f, lv, hr0, hg, hl, hL, ⟨h3, hS⟩, hV, hT, hZ, hH⟩)
      · rw [if_neg c1] at h; cases h
    | .inr (.inl n), h2, h =>
      simp only at h
      by_cases c1 : k = 2
      · rw [if_pos c1] at h
        simp only [Option.some.injEq] at h
        subst h
        have h3 := h2
        obtain ⟨v, rfl, hv⟩ := h2
        exact r2 c1 v (lv_at hl q h1) (kk _ List.mem_cons_self _ _ _ _ ⟨Gs, f, lv, hr0, hg, hl, hL, ⟨h3, hS⟩, hV, hT, hZ, hH⟩)
      · rw [if_neg c1] at h; cases h
    | .inr (.inr _), h2, h => cases h
theorem xsto_ok {i d k : Nat} (h : xsto nl x i d k = some xs) (hs : SAT E xt D t lo G0 f0 A s nl x H locs ls st)
    (r0 : k = 0 → i < nl → ∀ (v : Int32) (lv : List (Nat × Value)) (rest : List Value), lv_has ls nl lv → (∀ ls' : Array Slot, lv_has ls' nl ((i, .int v) :: lv.filter (fun q => !(q.1 == i) && !(q.1 + 1 == i && q.2.category == 2))) → W p l e R s m args below meth c H locs cells slots Q (F0 m (x.1 + d) ls' rest)) → W p l e R s m args below meth c H locs cells slots Q (F0 m x.1 ls (.int v :: rest)))
    (r1 : k = 1 → i + 1 < nl → ∀ (v : Int64) (lv : List (Nat × Value)) (rest : List Value), lv_has ls nl lv → (∀ ls' : Array Slot, lv_has ls' nl ((i, .long v) :: lv.filter (fun q => !(q.1 == i) && (!(q.1 == i + 1) && !(q.1 + 1 == i && q.2.category == 2)))) → W p l e R s m args below meth c H locs cells slots Q (F0 m (x.1 + d) ls' rest)) → W p l e R s m args below meth c H locs cells slots Q (F0 m x.1 ls (.long v :: rest)))
    (r2 : k = 2 → i < nl → ∀ (v : Nat) (lv : List (Nat × Value)) (rest : List Value), lv_has ls nl lv → (∀ ls' : Array Slot, lv_has ls' nl ((i, .ref v) :: lv.filter (fun q => !(q.1 == i) && !(q.1 + 1 == i && q.2.category == 2))) → W p l e R s m args below meth c H locs cells slots Q (F0 m (x.1 + d) ls' rest)) → W p l e R s m args below meth c H locs cells slots Q (F0 m x.1 ls (.ref v :: rest)))
    (kk : ∀ y ∈ xs, GO E xt D t lo G0 f0 A nl p l e R s m args below meth c cells slots Q y) : W p l e R s m args below meth c H locs cells slots Q (F0 m x.1 ls st) := by
  obtain ⟨pc, gi, L, S, V⟩ := x
  obtain ⟨Gs, f, lv, hr0, hg, hl, hL, hS, hV, hT, hZ, hH⟩ := hs
  match S, hS, h with
  | [], hS, h => simp [xsto] at h
  | .inl (.inl n) :: S, hS, h =>
    simp only [xsto] at h
    by_cases c1 : k = 0 ∧ i < nl
    · rw [if_pos c1] at h
      simp only [Option.some.injEq] at h
      subst h
      obtain ⟨v1, st1, rfl, hv1, hS1⟩ := SR_cons hS
      have h3 := hv1
      obtain ⟨v, rfl, hv⟩ := hv1
      exact r0 c1.1 c1.2 v lv st1 hl (fun ls' hl' => kk _ List.mem_cons_self _ _ _ _ ⟨Gs, f, _, hr0, hg, hl', LR_put1 hL h3, hS1, hV, hT, hZ, hH⟩)
    · rw [if_neg c1] at h; cases h
  | .inl (.inr n) :: S, hS, h =>
    simp only [xsto] at h
    by_cases c1 : k = 1 ∧ i + 1 < nl
    · rw [if_pos c1] at h
      simp only [Option.some.injEq] at h
      subst h
      obtain ⟨v1, st1, rfl, hv1, hS1⟩ := SR_cons hS
      have h3 := hv1
      obtain ⟨v, rfl, hv⟩ := hv1
      exact r1 c1.1 c1.2 v lv st1 hl (fun ls' hl' => kk _ List.mem_cons_self _ _ _ _ ⟨Gs, f, _, hr0, hg, hl', LR_put2 hL h3, hS1, hV, hT, hZ, hH⟩)
    · rw [if_neg c1] at h; cases h
  | .inr (.inl n) :: S, hS, h =>
    simp only [xsto] at h
    by_cases c1 : k = 2 ∧ i < nl
    · rw [if_pos c1] at h
      simp only [Option.some.injEq] at h
      subst h
      obtain ⟨v1, st1, rfl, hv1, hS1⟩ := SR_cons hS
      have h3 := hv1
      obtain ⟨v, rfl, hv⟩ := hv1
      exact r2 c1.1 c1.2 v lv st1 hl (fun ls' hl' => kk _ List.mem_cons_self _ _ _ _ ⟨Gs, f, _, hr0, hg, hl', LR_put1 hL h3, hS1, hV, hT, hZ, hH⟩)
    · rw [if_neg c1] at h; cases h
  | .inr (.inr n) :: S, hS, h => simp [xsto] at h
theorem stepB_ok {q : XQ} (X : CX p s m args meth c own cc nl ret) (hq : XQok own q) (hd : decode cc x.1 = .ok (ins, xlen ins)) (h : stepB nl q ins x = some xs) (hs : SAT E xt D t lo G0 f0 A s nl x H locs ls st)
    (kk : ∀ y ∈ xs, GO E xt D t lo G0 f0 A nl p l e R s m args below meth c cells slots Q y) : W p l e R s m args below meth c H locs cells slots Q (F0 m x.1 ls st) := by
  have no0 : ∀ {P : Prop}, (2 : Nat) = 0 → P := fun q => absurd q (by decide)
  unfold stepB at h
  split at h
  · exact xpui_ok (xpui_b h) h hs (fun k => lv_iconst X.1 X.2.1 hd rfl k) kk
  · rename_i n
    by_cases c1 : -128 ≤ n ∧ n ≤ 127
    · rw [if_pos c1] at h
      have hv : ((Int8.ofInt n).toInt32).toInt = n := by
        rw [Int8.toInt_toInt32]
        exact Int8.toInt_ofInt_of_le (by omega) (by omega)
      exact xpui_ok hv h hs (fun k => lv_bipush X.1 X.2.1 hd rfl k) kk
    · rw [if_neg c1] at h; cases h
  · rename_i n
    by_cases c1 : -32768 ≤ n ∧ n ≤ 32767
    · rw [if_pos c1] at h
      have hv : ((Int16.ofInt n).toInt32).toInt = n := by
        rw [Int16.toInt_toInt32]
        exact Int16.toInt_ofInt_of_le (by omega) (by omega)
      exact xpui_ok hv h hs (fun k => lv_sipush X.1 X.2.1 hd rfl k) kk
    · rw [if_neg c1] at h; cases h
  · rename_i n
    exact xpul_ok (v := Int64.ofNat (n : Nat)) (by revert n; intro n; match n with | 0 => intros; rfl | 1 => intros; rfl) h hs (fun k => lv_lconst X.1 X.2.1 hd rfl k) kk
  · rename_i i
    cases hx : xlook q.1 i with
    | none => rw [hx] at h; cases h
    | some v =>
      rw [hx] at h
      exact xpui_ok (xpui_b h) h hs (fun k => lv_ldc X.1 X.2.1 X.2.2.2.1 (X.2.2.2.2.1 _ (hq.1 i v hx)) hd k) kk
  · rename_i i
    cases hx : xlook q.1 i with
    | none => rw [hx] at h; cases h
    | some v =>
      rw [hx] at h
      exact xpui_ok (xpui_b h) h hs (fun k => lv_ldcw X.1 X.2.1 X.2.2.2.1 (X.2.2.2.2.1 _ (hq.1 i v hx)) hd k) kk
  · rename_i i
    cases hx : xlook q.2 i with
    | none => rw [hx] at h; cases h
    | some v =>
      rw [hx] at h
      exact xpul_ok (xpul_b h) h hs (fun k => lv_ldc2 X.1 X.2.1 X.2.2.2.1 (X.2.2.2.2.1 _ (hq.2 i v hx)) hd k) kk
  · exact xld_ok h hs (fun _ v hv k => lv_iload_n X.1 X.2.1 hd rfl hv k) (fun q => absurd q (by decide)) (fun q => absurd q (by decide)) kk
  · exact xld_ok h hs (fun _ v hv k => lv_iload X.1 X.2.1 hd hv k) (fun q => absurd q (by decide)) (fun q => absurd q (by decide)) kk
  · exact xld_ok h hs (fun q => absurd q (by decide)) (fun _ v hv k => lv_lload_n X.1 X.2.1 hd rfl hv k) (fun q => absurd q (by decide)) kk
  · exact xld_ok h hs (fun q => absurd q (by decide)) (fun _ v hv k => lv_lload X.1 X.2.1 hd hv k) (fun q => absurd q (by decide)) kk
  · exact xld_ok h hs (fun q => absurd q (by decide)) (fun q => absurd q (by decide)) (fun _ v hv k => lv_aload_n X.1 X.2.1 hd rfl hv k) kk
  · exact xld_ok h hs (fun q => absurd q (by decide)) (fun q => absurd q (by decide)) (fun _ v hv k => lv_aload X.1 X.2.1 hd hv k) kk
  · exact xsto_ok h hs (fun _ hi v lv rest hl k => lv_istore_n X.1 X.2.1 hd rfl hl hi rfl k) (fun q => absurd q (by decide)) (fun q => absurd q (by decide)) kk
  · exact xsto_ok h hs (fun _ hi v lv rest hl k => lv_istore X.1 X.2.1 hd hl hi rfl k) (fun q => absurd q (by decide)) (fun q => absurd q (by decide)) kk
  · exact xsto_ok h hs (fun q => absurd q (by decide)) (fun _ hi v lv rest hl k => lv_lstore_n X.1 X.2.1 hd rfl hl hi rfl k) (fun q => absurd q (by decide)) kk
  · exact xsto_ok h hs (fun q => absurd q (by decide)) (fun _ hi v lv rest hl k => lv_lstore X.1 X.2.1 hd hl hi rfl k) (fun q => absurd q (by decide)) kk
  · exact xsto_ok h hs (fun q => absurd q (by decide)) (fun q => absurd q (by decide)) (fun _ hi v lv rest hl k => lv_astore_n X.1 X.2.1 hd rfl hl hi rfl k) kk
  · exact xsto_ok h hs (fun q => absurd q (by decide)) (fun q => absurd q (by decide)) (fun _ hi v lv rest hl k => lv_astore X.1 X.2.1 hd hl hi rfl k) kk
  · rename_i i n
    obtain ⟨pc, gi, L, S, V⟩ := x
    obtain ⟨Gs, f, lv, ⟨r0, hr0⟩, hg, hl, hL, hS, hV, hT, hZ, hH⟩ := hs
    simp only at h
    cases hx : xget L i with
    | none => rw [hx] at h; cases h
    | some y =>
      obtain ⟨w, v, h1, h2⟩ := xget_ok hL hx
      rw [hx] at h
      match y, h2, h with
      | .inl (.inl a), h2, h =>
        obtain ⟨v, rfl, hv⟩ := h2
        simp only at h
        cases ho : xaddc lo32 hi32 gi a n with
        | none => rw [ho] at h; cases h
        | some u =>
          obtain ⟨gi', r⟩ := u
          rw [ho] at h
          simp only at h
          by_cases c1 : i < nl ∧ lo32 ≤ n ∧ n ≤ hi32
          · rw [if_pos c1] at h
            simp only [Option.some.injEq] at h
            subst h
            have z1 : lo32 = -2147483648 ∧ hi32 = 2147483647 := ⟨rfl, rfl⟩
            have hn : (Int32.ofInt n).toInt = n := Int32.toInt_ofInt_of_le (by omega) (by omega)
            obtain ⟨tt, g1, g2⟩ := xaddc_ok (z := v + Int32.ofInt n) ho hg hv (by rw [Int32.toInt_add, hn])
            exact lv_iinc X.1 X.2.1 hd hl h1 rfl c1.1 rfl (fun ls' hl' => kk _ List.mem_cons_self _ _ _ _ ⟨Gs ++ tt, f, _, ⟨r0 ++ tt, by rw [hr0, List.append_assoc]⟩, g1, hl', LR_put1 (LR_mono hL) ⟨_, rfl, g2⟩, SR_mono hS, VOK_mono hV, hT, hZ, hH⟩)
          · rw [if_neg c1] at h; cases h
      | .inl (.inr _), h2, h => cases h
      | .inr (.inl _), h2, h => cases h
      | .inr (.inr _), h2, h => cases h
  · cases h
end XP
