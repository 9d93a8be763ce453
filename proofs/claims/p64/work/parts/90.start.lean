/-! the start: the fresh cells of both sides -/
theorem mw_21 : Jvm.Cond.classLink "BellMoneyLaw" (7 : Nat) "BellMoney" ∈ Wd := List.mem_filter.mpr ⟨List.mem_of_getElem? (i := 123) (by decide +kernel), by decide +kernel⟩
theorem mw_22 : Jvm.Cond.instantiable "BellMoney" (8 : Nat) ∈ Wd := List.mem_filter.mpr ⟨List.mem_of_getElem? (i := 124) (by decide +kernel), by decide +kernel⟩
theorem mw_1254 : Jvm.Cond.classLink "BellMoneyLaw" (10 : Nat) "BellMoneyModel" ∈ Wd := List.mem_filter.mpr ⟨List.mem_of_getElem? (i := 1356) (by decide +kernel), by decide +kernel⟩
theorem mw_1255 : Jvm.Cond.instantiable "BellMoneyModel" (49 : Nat) ∈ Wd := List.mem_filter.mpr ⟨List.mem_of_getElem? (i := 1357) (by decide +kernel), by decide +kernel⟩
theorem mw_23 : Jvm.Cond.methodLink "BellMoneyLaw" (9 : Nat) ({ cls := "BellMoney", name := "<init>", desc := "()V" } : Jvm.MethodName) ∈ Wd := List.mem_filter.mpr ⟨List.mem_of_getElem? (i := 125) (by decide +kernel), by decide +kernel⟩
theorem mw_24 : Jvm.Cond.instanceMethod ({ cls := "BellMoney", name := "<init>", desc := "()V" } : Jvm.MethodName) ∈ Wd := List.mem_filter.mpr ⟨List.mem_of_getElem? (i := 126) (by decide +kernel), by decide +kernel⟩
theorem mw_25 : Jvm.Cond.code ({ cls := "BellMoney", name := "<init>", desc := "()V" } : Jvm.MethodName) prog_1_method_1_code (2 : Nat) (Option.none : Option Jvm.ClassFile.FieldType) ∈ Wd := List.mem_filter.mpr ⟨List.mem_of_getElem? (i := 127) (by decide +kernel), by decide +kernel⟩
theorem mw_1256 : Jvm.Cond.methodLink "BellMoneyLaw" (12 : Nat) ({ cls := "BellMoneyModel", name := "<init>", desc := "()V" } : Jvm.MethodName) ∈ Wd := List.mem_filter.mpr ⟨List.mem_of_getElem? (i := 1358) (by decide +kernel), by decide +kernel⟩
theorem mw_1257 : Jvm.Cond.instanceMethod ({ cls := "BellMoneyModel", name := "<init>", desc := "()V" } : Jvm.MethodName) ∈ Wd := List.mem_filter.mpr ⟨List.mem_of_getElem? (i := 1359) (by decide +kernel), by decide +kernel⟩
theorem mw_1258 : Jvm.Cond.code ({ cls := "BellMoneyModel", name := "<init>", desc := "()V" } : Jvm.MethodName) prog_13_method_1_code (2 : Nat) (Option.none : Option Jvm.ClassFile.FieldType) ∈ Wd := List.mem_filter.mpr ⟨List.mem_of_getElem? (i := 1360) (by decide +kernel), by decide +kernel⟩
/-- fields of a fresh cell are of their types; the pool begins at the place o -/
def kfs (K : List XK) (kd : List Nat) (o : Nat) : List KV → List XT → Bool
  | [], [] => true
  | .inl n :: fs, .inl (.inl (a, b)) :: ts => decide (a ≤ n) && decide (n ≤ b) && decide (lo32 ≤ n) && decide (n ≤ hi32) && kfs K kd o fs ts
  | .inr (.inl n) :: fs, .inl (.inr (a, b)) :: ts => decide (a ≤ n) && decide (n ≤ b) && decide (lo64 ≤ n) && decide (n ≤ hi64) && kfs K kd o fs ts
  | .inr (.inr (some (.inl i))) :: fs, .inr (.inl k) :: ts => decide (o ≤ i) && kd[i - o]? == some k && (K[k]?).isSome && kfs K kd o fs ts
  | _ :: fs, .inr (.inr _) :: ts => kfs K kd o fs ts
  | _, _ => false
def krs (K : List XK) (kd : List Nat) (o : Nat) (rs : List (Nat × (Nat ⊕ Nat))) : Nat → List Nat → Bool
  | _, [] => true
  | i, k :: ks => (match klook rs i with
    | some (.inl j) => decide (o ≤ j) && kd[j - o]? == some k && (K[k]?).isSome
    | _ => false) && krs K kd o rs (i + 1) ks
def kcok (K : List XK) (kd : List Nat) (o : Nat) (c : KC) (κ : XK) : Bool := match c, κ with
  | .inl (ci, fs), .inl (ci', ts) => ci == ci' && kfs K kd o fs ts
  | .inr (tt, z, .inl us), .inr (tt', z', .inl (a, b, _, bl)) => tt == tt' && z == z' && (decide (a ≤ 0 ∧ 0 ≤ b) || (tt != 1 && (List.range z).all (fun i => (klook us i).isSome))) && us.all (fun q => decide (a ≤ q.2) && decide (q.2 ≤ b) && decide (lo32 ≤ q.2) && decide (q.2 ≤ hi32)) && (bl.isEmpty || (us.isEmpty && bl.all (fun q => decide (q.1 ≤ 0) && decide (0 ≤ q.2))))
  | .inr (tt, z, .inr rs), .inr (tt', z', .inr ks) => tt == tt' && z == z' && ks.length == z && krs K kd o rs 0 ks
  | _, _ => false
def kall (K : List XK) (kd : List Nat) (o : Nat) : List KC → List Nat → Bool
  | [], [] => true
  | c :: cs, k :: ks => (match K[k]? with
    | some κ => kcok K kd o c κ
    | none => false) && kall K kd o cs ks
  | _, _ => false
theorem kI_b {a b : Int} : ∀ {us : List (Nat × Int)} {i : Nat}, ((a ≤ 0 ∧ 0 ≤ b) ∨ (klook us i).isSome = true) → us.all (fun q => decide (a ≤ q.2) && decide (q.2 ≤ b) && decide (lo32 ≤ q.2) && decide (q.2 ≤ hi32)) = true → a ≤ (kI us i).toInt ∧ (kI us i).toInt ≤ b
  | [], i, h1, _ => by
    show a ≤ ((0 : Int32)).toInt ∧ ((0 : Int32)).toInt ≤ b
    have z : (0 : Int32).toInt = 0 := rfl
    rcases h1 with h1 | h1
    · omega
    · cases h1
  | (j, x) :: us, i, h1, h => by
    simp only [List.all_cons, Bool.and_eq_true, decide_eq_true_eq] at h
    have z1 : lo32 = -2147483648 ∧ hi32 = 2147483647 := ⟨rfl, rfl⟩
    simp only [kI]
    by_cases c : i = j
    · subst c
      rw [pk_us, Int32.toInt_ofInt_of_le (by omega) (by omega)]
      omega
    · rw [pk_un c]
      refine kI_b ?_ h.2
      rcases h1 with h1 | h1
      · exact Or.inl h1
      · simp only [klook] at h1
        rw [if_neg (fun q => c q.symm)] at h1
        exact Or.inr h1
theorem kR_at {lo : Nat} {ext : List Nat} : ∀ {rs : List (Nat × (Nat ⊕ Nat))} {i : Nat} {r : Nat ⊕ Nat}, klook rs i = some r → kR lo ext rs i = some (kad lo ext r)
  | (j, x) :: rs, i, r, h => by
    simp only [klook] at h
    by_cases c : j = i
    · rw [if_pos c] at h
      cases h
      subst c
      simp only [kR, va_up_self]
    · rw [if_neg c] at h
      simp only [kR]
      rw [va_up_ne _ _ (fun q => c q.symm)]
      exact kR_at h
theorem xB_off {E : XE} {xt : XX} {lo o j k : Nat} (h1 : o ≤ j) (h2 : E.2.1[j - o]? = some k) (h3 : (E.1[k]?).isSome = true) : xB E (lo + o) xt k (lo + j) := by
  obtain ⟨y, hy⟩ := Option.isSome_iff_exists.mp h3
  rw [show lo + j = lo + o + (j - o) by omega]
  exact xB_of h2 hy
theorem krs_ok {K : List XK} {kd : List Nat} {o : Nat} {rs : List (Nat × (Nat ⊕ Nat))} : ∀ {ks : List Nat} {i0 i k : Nat}, krs K kd o rs i0 ks = true → ks[i]? = some k → ∃ j, klook rs (i0 + i) = some (.inl j) ∧ o ≤ j ∧ kd[j - o]? = some k ∧ (K[k]?).isSome = true
  | k0 :: ks, i0, 0, k, h, hk => by
    simp only [List.getElem?_cons_zero, Option.some.injEq] at hk
    subst hk
    simp only [krs, Bool.and_eq_true] at h
    obtain ⟨h, _⟩ := h
    split at h
    · rename_i j e
      simp only [Bool.and_eq_true, decide_eq_true_eq, beq_iff_eq] at h
      exact ⟨j, e, h.1.1, h.1.2, h.2⟩
    · cases h
  | k0 :: ks, i0, i + 1, k, h, hk => by
    simp only [krs, Bool.and_eq_true] at h
    obtain ⟨j, a, b⟩ := krs_ok h.2 (by simpa using hk)
    exact ⟨j, by rw [show i0 + (i + 1) = i0 + 1 + i by omega]; exact a, b⟩
theorem kfs_ok {E : XE} {xt : XX} {lo o : Nat} {ext : List Nat} : ∀ {fs : List KV} {ts : List XT}, kfs E.1 E.2.1 o fs ts = true → fs.length = ts.length ∧ ∀ (k : Nat) (T : XT), ts[k]? = some T → ∃ v, (fs.map (kval lo ext))[k]? = some v ∧ tok (xB E (lo + o) xt) T v := by
  intro fs
  induction fs with
  | nil =>
    intro ts h
    cases ts with
    | nil => exact ⟨rfl, fun k T h => by simp at h⟩
    | cons T ts => simp [kfs] at h
  | cons v fs ih =>
    intro ts h
    cases ts with
    | nil => simp [kfs] at h
    | cons T ts =>
      have fin : (∃ w, kval lo ext v = w ∧ tok (xB E (lo + o) xt) T w) → kfs E.1 E.2.1 o fs ts = true → (v :: fs).length = (T :: ts).length ∧ ∀ (k : Nat) (T' : XT), (T :: ts)[k]? = some T' → ∃ w, ((v :: fs).map (kval lo ext))[k]? = some w ∧ tok (xB E (lo + o) xt) T' w := by
        intro h0 h1
        obtain ⟨q1, q2⟩ := ih h1
        refine ⟨by simp [q1], fun k T' hk => ?_⟩
        match k, hk with
        | 0, hk =>
          simp only [List.getElem?_cons_zero, Option.some.injEq] at hk
          subst hk
          obtain ⟨w, e, h0⟩ := h0
          exact ⟨w, by simp [e], h0⟩
        | k + 1, hk => simpa using q2 k T' (by simpa using hk)
      match v, T, h with
      | .inl n, .inl (.inl (a, b)), h =>
        simp only [kfs, Bool.and_eq_true, decide_eq_true_eq] at h
        have z1 : lo32 = -2147483648 ∧ hi32 = 2147483647 := ⟨rfl, rfl⟩
        exact fin ⟨_, rfl, _, rfl, by rw [Int32.toInt_ofInt_of_le (by omega) (by omega)]; omega, by rw [Int32.toInt_ofInt_of_le (by omega) (by omega)]; omega⟩ h.2
      | .inr (.inl n), .inl (.inr (a, b)), h =>
        simp only [kfs, Bool.and_eq_true, decide_eq_true_eq] at h
        have z1 : lo64 = -9223372036854775808 ∧ hi64 = 9223372036854775807 := ⟨rfl, rfl⟩
        exact fin ⟨_, rfl, _, rfl, by rw [Int64.toInt_ofInt_of_le (by omega) (by omega)]; omega, by rw [Int64.toInt_ofInt_of_le (by omega) (by omega)]; omega⟩ h.2
      | .inr (.inr (some (.inl i))), .inr (.inl k0), h =>
        simp only [kfs, Bool.and_eq_true, decide_eq_true_eq, beq_iff_eq] at h
        exact fin ⟨_, rfl, _, rfl, xB_off h.1.1.1 h.1.1.2 h.1.2⟩ h.2
      | .inl n, .inr (.inr j), h => exact fin ⟨_, rfl, trivial⟩ (by simpa [kfs] using h)
      | .inr (.inl n), .inr (.inr j), h => exact fin ⟨_, rfl, trivial⟩ (by simpa [kfs] using h)
      | .inr (.inr r), .inr (.inr j), h => exact fin ⟨_, rfl, trivial⟩ (by simpa [kfs] using h)
theorem kcok_ok {E : XE} {xt : XX} {t : Nat → ClassId} {lo o : Nat} {ext : List Nat} {c : KC} {κ : XK} (h : kcok E.1 E.2.1 o c κ = true) : cok (xB E (lo + o) xt) t κ (kcell t lo ext c) := by
  match c, κ, h with
  | .inl (ci, fs), .inl (ci', ts), h =>
    simp only [kcok, Bool.and_eq_true, beq_iff_eq] at h
    obtain ⟨rfl, h⟩ := h
    obtain ⟨q1, q2⟩ := kfs_ok (xt := xt) (lo := lo) (ext := ext) h
    exact ⟨_, rfl, by rw [List.length_map]; exact q1, q2⟩
  | .inr (tt, z, .inl us), .inr (tt', z', .inl (a, b, tk, bl)), h =>
    simp only [kcok, Bool.and_eq_true, Bool.or_eq_true, beq_iff_eq, bne_iff_ne, decide_eq_true_eq] at h
    obtain ⟨⟨⟨⟨rfl, rfl⟩, h1⟩, h3⟩, h4⟩ := h
    simp only [cok, kcell]
    by_cases c1 : tt = 1
    · rw [if_pos c1, if_pos c1]
      refine ⟨fun _ => 0, rfl, fun i _ => ?_⟩
      have z : (0 : Int64).toInt = 0 := rfl
      rw [z]
      rcases h1 with h1 | h1
      · exact h1
      · exact absurd c1 h1.1
    · rw [if_neg c1, if_neg c1]
      refine ⟨_, rfl, fun i hi => kI_b ?_ h3, ?_⟩
      · rcases h1 with h1 | h1
        · exact Or.inl h1
        · exact Or.inr (List.all_eq_true.mp h1.2 i (List.mem_range.mpr hi))
      · intro i q hq
        rcases h4 with h4 | ⟨h4, h5⟩
        · rw [List.isEmpty_iff.mp h4] at hq
          simp at hq
        · rw [List.isEmpty_iff.mp h4]
          have := List.all_eq_true.mp h5 q (List.mem_of_getElem? hq)
          simp only [Bool.and_eq_true, decide_eq_true_eq] at this
          exact this
  | .inr (tt, z, .inr rs), .inr (tt', z', .inr ks), h =>
    simp only [kcok, Bool.and_eq_true, beq_iff_eq] at h
    obtain ⟨⟨⟨rfl, rfl⟩, h1⟩, h2⟩ := h
    refine ⟨_, rfl, h1, fun i k hk => ?_⟩
    obtain ⟨j, a, b1, b2, b3⟩ := krs_ok h2 hk
    rw [Nat.zero_add] at a
    exact ⟨_, kR_at a, xB_off b1 b2 b3⟩
theorem kall_ok {K : List XK} {kd : List Nat} {o : Nat} : ∀ {cs : List KC} {ks : List Nat}, kall K kd o cs ks = true → ∀ (i k : Nat), ks[i]? = some k → ∃ c κ, cs[i]? = some c ∧ K[k]? = some κ ∧ kcok K kd o c κ = true
  | [], [], _ => fun i k h => by simp at h
  | c :: cs, k0 :: ks, h => by
    simp only [kall, Bool.and_eq_true] at h
    obtain ⟨h0, h⟩ := h
    have q2 := kall_ok h
    intro i k hk
    match i, hk with
    | 0, hk =>
      simp only [List.getElem?_cons_zero, Option.some.injEq] at hk
      subst hk
      split at h0
      · rename_i κ e
        exact ⟨c, κ, rfl, e, h0⟩
      · cases h0
    | i + 1, hk => simpa using q2 i k (by simpa using hk)
theorem f_made {t : Nat → ClassId} {lo o i : Nat} {ext : List Nat} {cs : List KC} {c : KC} (a : (cs.drop o)[i]? = some c) : px_f lo (cs.map (kcell t lo ext)) (lo + o + i) = kcell t lo ext c := by
  rw [List.getElem?_drop] at a
  simp only [px_f]
  rw [show lo + o + i - lo = o + i by omega, List.getElem?_map, a]
  rfl
theorem TYP_made {E : XE} {xt : XX} {t : Nat → ClassId} {lo o : Nat} {ext : List Nat} {cs : List KC} (h : kall E.1 E.2.1 o ((cs.drop o).take E.2.1.length) E.2.1 = true) : TYP E xt t (lo + o) (px_f lo (cs.map (kcell t lo ext))) := by
  intro i k hk
  obtain ⟨c, κ, a, b, d⟩ := kall_ok h i k hk
  refine ⟨κ, b, ?_⟩
  have hlt : i < E.2.1.length := (List.getElem?_eq_some_iff.mp hk).1
  rw [List.getElem?_take_of_lt hlt] at a
  rw [f_made a]
  exact kcok_ok d
def kt_L : KT := ([], [(7, 10, [kvN, kvN, kvN, kvN, kvN, kvN, kvN, kvN]), (10, 11, [kvI 0, kvN, kvN, kvN, kvN, kvN, kvI 0, kvI 0, kvI 0, kvI 0, kvI 0, kvL 0, kvI 0, kvI 0, kvI 0, kvI 0, kvN, kvN, kvN, kvN, kvN, kvN, kvN, kvN, kvI 0, kvI 0, kvI 0, kvI 0, kvI 0, kvI 0, kvL 0, kvL 0, kvN, kvL 0, kvI 0, kvI 0, kvI 0, kvI 0, kvI 0, kvI 0, kvI 0, kvI 0, kvI 0, kvI 0, kvI 0, kvN, kvI 0, kvI 0, kvN])], [], [], [(9, false, 0, KM_X10_init), (12, false, 0, KM_X11_init)])
theorem kt_L_ok (l : Launch) (D : va_G) (t : Nat → ClassId) : KTok l D t RL kt_L := ⟨klook_nil, klook_cons (P := KN1 RL) ⟨RX10, TX10, 8, tyX10, iX10, tyX10_ok, mw_21, mw_22, mw_1, rfl, rfl, (fun lo ext j hj => by rcases (show j = 0 ∨ j = 1 ∨ j = 2 ∨ j = 3 ∨ j = 4 ∨ j = 5 ∨ j = 6 ∨ j = 7 by omega) with rfl | rfl | rfl | rfl | rfl | rfl | rfl | rfl <;> rfl)⟩ (klook_cons (P := KN1 RL) ⟨RX11, TX11, 49, tyX11, iX11, tyX11_ok, mw_1254, mw_1255, mw_12, rfl, rfl, (fun lo ext j hj => by rcases (show j = 0 ∨ j = 1 ∨ j = 2 ∨ j = 3 ∨ j = 4 ∨ j = 5 ∨ j = 6 ∨ j = 7 ∨ j = 8 ∨ j = 9 ∨ j = 10 ∨ j = 11 ∨ j = 12 ∨ j = 13 ∨ j = 14 ∨ j = 15 ∨ j = 16 ∨ j = 17 ∨ j = 18 ∨ j = 19 ∨ j = 20 ∨ j = 21 ∨ j = 22 ∨ j = 23 ∨ j = 24 ∨ j = 25 ∨ j = 26 ∨ j = 27 ∨ j = 28 ∨ j = 29 ∨ j = 30 ∨ j = 31 ∨ j = 32 ∨ j = 33 ∨ j = 34 ∨ j = 35 ∨ j = 36 ∨ j = 37 ∨ j = 38 ∨ j = 39 ∨ j = 40 ∨ j = 41 ∨ j = 42 ∨ j = 43 ∨ j = 44 ∨ j = 45 ∨ j = 46 ∨ j = 47 ∨ j = 48 by omega) with rfl | rfl | rfl | rfl | rfl | rfl | rfl | rfl | rfl | rfl | rfl | rfl | rfl | rfl | rfl | rfl | rfl | rfl | rfl | rfl | rfl | rfl | rfl | rfl | rfl | rfl | rfl | rfl | rfl | rfl | rfl | rfl | rfl | rfl | rfl | rfl | rfl | rfl | rfl | rfl | rfl | rfl | rfl | rfl | rfl | rfl | rfl | rfl | rfl <;> rfl)⟩ (klook_nil)), klook_nil, kob_0, klook_cons (P := KC1 l D t RL) (KC1.i (y := yX10_init) (cy := cX10_init) mw_23 mw_24 mw_1 mw_25 rfl (by decide +kernel) (by decide) (KH_X10_init l D t)) (klook_cons (P := KC1 l D t RL) (KC1.i (y := yX11_init) (cy := cX11_init) mw_1256 mw_1257 mw_12 mw_1258 rfl (by decide +kernel) (by decide) (KH_X11_init l D t)) (klook_nil))⟩
def KL : List KC := [.inl (10, [kvR 1, kvR 3, kvR 4, kvR 5, kvR 10, kvR 15, kvR 71, kvR 127]), .inl (7, [kvR 2, kvI 0]), .inr (2, 1400, .inl []), .inr (5, 3, .inr [(2, .inl 240), (1, .inl 184), (0, .inl 128)]), .inr (6, 4, .inr [(3, .inl 302), (2, .inl 300), (1, .inl 298), (0, .inl 296)]), .inl (2, [kvR 6, kvR 7, kvR 8, kvR 9, kvI (-1), kvI (-1), kvI 0, kvI 0, kvI (-1), kvI 0]), .inl (6, [kvI 0, kvI 0, kvI 0, kvI 0, kvI 0, kvL 0, kvL 0, kvL 0]), .inr (1, 20, .inl []), .inr (1, 20, .inl []), .inr (0, 20, .inl []), .inl (1, [kvR 5, kvR 11, kvR 12, kvR 13, kvR 14, kvI 0, kvI 0, kvI 0, kvI (-1)]), .inr (3, 1024, .inl []), .inr (0, 1024, .inl []), .inr (0, 11, .inl []), .inr (0, 11, .inl []), .inl (9, [kvI 0, kvR 16, kvR 29, kvR 30, kvI 0]), .inl (8, [kvI 0, kvI 0, kvI 0, kvI 0, kvI 0, kvI 0, kvI 0, kvR 17, kvI 0, kvI 0, kvR 18, kvI 0, kvR 23, kvI 0, kvI 0, kvR 24, kvR 25, kvR 26, kvR 27]), .inr (0, 4, .inl []), .inl (0, [kvR 19, kvR 20, kvR 21, kvR 22]), .inr (0, 10, .inl []), .inr (0, 10, .inl []), .inr (0, 10, .inl []), .inr (0, 10, .inl []), .inr (0, 4, .inl []), .inr (0, 12, .inl []), .inr (0, 12, .inl []), .inr (0, 20, .inl []), .inl (3, [kvI 0, kvI 0, kvR 28]), .inr (0, 10, .inl []), .inl (6, [kvI 0, kvI 0, kvI 0, kvI 0, kvI 0, kvL 0, kvL 0, kvL 0]), .inr (4, 40, .inr [(39, .inl 70), (38, .inl 69), (37, .inl 68), (36, .inl 67), (35, .inl 66), (34, .inl 65), (33, .inl 64), (32, .inl 63), (31, .inl 62), (30, .inl 61), (29, .inl 60), (28, .inl 59), (27, .inl 58), (26, .inl 57), (25, .inl 56), (24, .inl 55), (23, .inl 54), (22, .inl 53), (21, .inl 52), (20, .inl 51), (19, .inl 50), (18, .inl 49), (17, .inl 48), (16, .inl 47), (15, .inl 46), (14, .inl 45), (13, .inl 44), (12, .inl 43), (11, .inl 42), (10, .inl 41), (9, .inl 40), (8, .inl 39), (7, .inl 38), (6, .inl 37), (5, .inl 36), (4, .inl 35), (3, .inl 34), (2, .inl 33), (1, .inl 32), (0, .inl 31)]), .inl (6, [kvI 0, kvI 0, kvI 0, kvI 0, kvI 0, kvL 0, kvL 0, kvL 0]), .inl (6, [kvI 0, kvI 0, kvI 0, kvI 0, kvI 0, kvL 0, kvL 0, kvL 0]), .inl (6, [kvI 0, kvI 0, kvI 0, kvI 0, kvI 0, kvL 0, kvL 0, kvL 0]), .inl (6, [kvI 0, kvI 0, kvI 0, kvI 0, kvI 0, kvL 0, kvL 0, kvL 0]), .inl (6, [kvI 0, kvI 0, kvI 0, kvI 0, kvI 0, kvL 0, kvL 0, kvL 0]), .inl (6, [kvI 0, kvI 0, kvI 0, kvI 0, kvI 0, kvL 0, kvL 0, kvL 0]), .inl (6, [kvI 0, kvI 0, kvI 0, kvI 0, kvI 0, kvL 0, kvL 0, kvL 0]), .inl (6, [kvI 0, kvI 0, kvI 0, kvI 0, kvI 0, kvL 0, kvL 0, kvL 0]), .inl (6, [kvI 0, kvI 0, kvI 0, kvI 0, kvI 0, kvL 0, kvL 0, kvL 0]), .inl (6, [kvI 0, kvI 0, kvI 0, kvI 0, kvI 0, kvL 0, kvL 0, kvL 0]), .inl (6, [kvI 0, kvI 0, kvI 0, kvI 0, kvI 0, kvL 0, kvL 0, kvL 0]), .inl (6, [kvI 0, kvI 0, kvI 0, kvI 0, kvI 0, kvL 0, kvL 0, kvL 0]), .inl (6, [kvI 0, kvI 0, kvI 0, kvI 0, kvI 0, kvL 0, kvL 0, kvL 0]), .inl (6, [kvI 0, kvI 0, kvI 0, kvI 0, kvI 0, kvL 0, kvL 0, kvL 0]), .inl (6, [kvI 0, kvI 0, kvI 0, kvI 0, kvI 0, kvL 0, kvL 0, kvL 0]), .inl (6, [kvI 0, kvI 0, kvI 0, kvI 0, kvI 0, kvL 0, kvL 0, kvL 0]), .inl (6, [kvI 0, kvI 0, kvI 0, kvI 0, kvI 0, kvL 0, kvL 0, kvL 0]), .inl (6, [kvI 0, kvI 0, kvI 0, kvI 0, kvI 0, kvL 0, kvL 0, kvL 0]), .inl (6, [kvI 0, kvI 0, kvI 0, kvI 0, kvI 0, kvL 0, kvL 0, kvL 0]), .inl (6, [kvI 0, kvI 0, kvI 0, kvI 0, kvI 0, kvL 0, kvL 0, kvL 0]), .inl (6, [kvI 0, kvI 0, kvI 0, kvI 0, kvI 0, kvL 0, kvL 0, kvL 0]), .inl (6, [kvI 0, kvI 0, kvI 0, kvI 0, kvI 0, kvL 0, kvL 0, kvL 0]), .inl (6, [kvI 0, kvI 0, kvI 0, kvI 0, kvI 0, kvL 0, kvL 0, kvL 0]), .inl (6, [kvI 0, kvI 0, kvI 0, kvI 0, kvI 0, kvL 0, kvL 0, kvL 0]), .inl (6, [kvI 0, kvI 0, kvI 0, kvI 0, kvI 0, kvL 0, kvL 0, kvL 0]), .inl (6, [kvI 0, kvI 0, kvI 0, kvI 0, kvI 0, kvL 0, kvL 0, kvL 0]), .inl (6, [kvI 0, kvI 0, kvI 0, kvI 0, kvI 0, kvL 0, kvL 0, kvL 0]), .inl (6, [kvI 0, kvI 0, kvI 0, kvI 0, kvI 0, kvL 0, kvL 0, kvL 0]), .inl (6, [kvI 0, kvI 0, kvI 0, kvI 0, kvI 0, kvL 0, kvL 0, kvL 0]), .inl (6, [kvI 0, kvI 0, kvI 0, kvI 0, kvI 0, kvL 0, kvL 0, kvL 0]), .inl (6, [kvI 0, kvI 0, kvI 0, kvI 0, kvI 0, kvL 0, kvL 0, kvL 0]), .inl (6, [kvI 0, kvI 0, kvI 0, kvI 0, kvI 0, kvL 0, kvL 0, kvL 0]), .inl (6, [kvI 0, kvI 0, kvI 0, kvI 0, kvI 0, kvL 0, kvL 0, kvL 0]), .inl (6, [kvI 0, kvI 0, kvI 0, kvI 0, kvI 0, kvL 0, kvL 0, kvL 0]), .inl (6, [kvI 0, kvI 0, kvI 0, kvI 0, kvI 0, kvL 0, kvL 0, kvL 0]), .inl (6, [kvI 0, kvI 0, kvI 0, kvI 0, kvI 0, kvL 0, kvL 0, kvL 0]), .inl (6, [kvI 0, kvI 0, kvI 0, kvI 0, kvI 0, kvL 0, kvL 0, kvL 0]), .inl (6, [kvI 0, kvI 0, kvI 0, kvI 0, kvI 0, kvL 0, kvL 0, kvL 0]), .inl (6, [kvI 0, kvI 0, kvI 0, kvI 0, kvI 0, kvL 0, kvL 0, kvL 0]), .inl (6, [kvI 0, kvI 0, kvI 0, kvI 0, kvI 0, kvL 0, kvL 0, kvL 0]), .inl (9, [kvI 0, kvR 72, kvR 85, kvR 86, kvI 0]), .inl (8, [kvI 0, kvI 0, kvI 0, kvI 0, kvI 0, kvI 0, kvI 0, kvR 73, kvI 0, kvI 0, kvR 74, kvI 0, kvR 79, kvI 0, kvI 0, kvR 80, kvR 81, kvR 82, kvR 83]), .inr (0, 4, .inl []), .inl (0, [kvR 75, kvR 76, kvR 77, kvR 78]), .inr (0, 10, .inl []), .inr (0, 10, .inl []), .inr (0, 10, .inl []), .inr (0, 10, .inl []), .inr (0, 4, .inl []), .inr (0, 12, .inl []), .inr (0, 12, .inl []), .inr (0, 20, .inl []), .inl (3, [kvI 0, kvI 0, kvR 84]), .inr (0, 10, .inl []), .inl (6, [kvI 0, kvI 0, kvI 0, kvI 0, kvI 0, kvL 0, kvL 0, kvL 0]), .inr (4, 40, .inr [(39, .inl 126), (38, .inl 125), (37, .inl 124), (36, .inl 123), (35, .inl 122), (34, .inl 121), (33, .inl 120), (32, .inl 119), (31, .inl 118), (30, .inl 117), (29, .inl 116), (28, .inl 115), (27, .inl 114), (26, .inl 113), (25, .inl 112), (24, .inl 111), (23, .inl 110), (22, .inl 109), (21, .inl 108), (20, .inl 107), (19, .inl 106), (18, .inl 105), (17, .inl 104), (16, .inl 103), (15, .inl 102), (14, .inl 101), (13, .inl 100), (12, .inl 99), (11, .inl 98), (10, .inl 97), (9, .inl 96), (8, .inl 95), (7, .inl 94), (6, .inl 93), (5, .inl 92), (4, .inl 91), (3, .inl 90), (2, .inl 89), (1, .inl 88), (0, .inl 87)]), .inl (6, [kvI 0, kvI 0, kvI 0, kvI 0, kvI 0, kvL 0, kvL 0, kvL 0]), .inl (6, [kvI 0, kvI 0, kvI 0, kvI 0, kvI 0, kvL 0, kvL 0, kvL 0]), .inl (6, [kvI 0, kvI 0, kvI 0, kvI 0, kvI 0, kvL 0, kvL 0, kvL 0]), .inl (6, [kvI 0, kvI 0, kvI 0, kvI 0, kvI 0, kvL 0, kvL 0, kvL 0]), .inl (6, [kvI 0, kvI 0, kvI 0, kvI 0, kvI 0, kvL 0, kvL 0, kvL 0]), .inl (6, [kvI 0, kvI 0, kvI 0, kvI 0, kvI 0, kvL 0, kvL 0, kvL 0]), .inl (6, [kvI 0, kvI 0, kvI 0, kvI 0, kvI 0, kvL 0, kvL 0, kvL 0]), .inl (6, [kvI 0, kvI 0, kvI 0, kvI 0, kvI 0, kvL 0, kvL 0, kvL 0]), .inl (6, [kvI 0, kvI 0, kvI 0, kvI 0, kvI 0, kvL 0, kvL 0, kvL 0]), .inl (6, [kvI 0, kvI 0, kvI 0, kvI 0, kvI 0, kvL 0, kvL 0, kvL 0]), .inl (6, [kvI 0, kvI 0, kvI 0, kvI 0, kvI 0, kvL 0, kvL 0, kvL 0]), .inl (6, [kvI 0, kvI 0, kvI 0, kvI 0, kvI 0, kvL 0, kvL 0, kvL 0]), .inl (6, [kvI 0, kvI 0, kvI 0, kvI 0, kvI 0, kvL 0, kvL 0, kvL 0]), .inl (6, [kvI 0, kvI 0, kvI 0, kvI 0, kvI 0, kvL 0, kvL 0, kvL 0]), .inl (6, [kvI 0, kvI 0, kvI 0, kvI 0, kvI 0, kvL 0, kvL 0, kvL 0]), .inl (6, [kvI 0, kvI 0, kvI 0, kvI 0, kvI 0, kvL 0, kvL 0, kvL 0]), .inl (6, [kvI 0, kvI 0, kvI 0, kvI 0, kvI 0, kvL 0, kvL 0, kvL 0]), .inl (6, [kvI 0, kvI 0, kvI 0, kvI 0, kvI 0, kvL 0, kvL 0, kvL 0]), .inl (6, [kvI 0, kvI 0, kvI 0, kvI 0, kvI 0, kvL 0, kvL 0, kvL 0]), .inl (6, [kvI 0, kvI 0, kvI 0, kvI 0, kvI 0, kvL 0, kvL 0, kvL 0]), .inl (6, [kvI 0, kvI 0, kvI 0, kvI 0, kvI 0, kvL 0, kvL 0, kvL 0]), .inl (6, [kvI 0, kvI 0, kvI 0, kvI 0, kvI 0, kvL 0, kvL 0, kvL 0]), .inl (6, [kvI 0, kvI 0, kvI 0, kvI 0, kvI 0, kvL 0, kvL 0, kvL 0]), .inl (6, [kvI 0, kvI 0, kvI 0, kvI 0, kvI 0, kvL 0, kvL 0, kvL 0]), .inl (6, [kvI 0, kvI 0, kvI 0, kvI 0, kvI 0, kvL 0, kvL 0, kvL 0]), .inl (6, [kvI 0, kvI 0, kvI 0, kvI 0, kvI 0, kvL 0, kvL 0, kvL 0]), .inl (6, [kvI 0, kvI 0, kvI 0, kvI 0, kvI 0, kvL 0, kvL 0, kvL 0]), .inl (6, [kvI 0, kvI 0, kvI 0, kvI 0, kvI 0, kvL 0, kvL 0, kvL 0]), .inl (6, [kvI 0, kvI 0, kvI 0, kvI 0, kvI 0, kvL 0, kvL 0, kvL 0]), .inl (6, [kvI 0, kvI 0, kvI 0, kvI 0, kvI 0, kvL 0, kvL 0, kvL 0]), .inl (6, [kvI 0, kvI 0, kvI 0, kvI 0, kvI 0, kvL 0, kvL 0, kvL 0]), .inl (6, [kvI 0, kvI 0, kvI 0, kvI 0, kvI 0, kvL 0, kvL 0, kvL 0]), .inl (6, [kvI 0, kvI 0, kvI 0, kvI 0, kvI 0, kvL 0, kvL 0, kvL 0]), .inl (6, [kvI 0, kvI 0, kvI 0, kvI 0, kvI 0, kvL 0, kvL 0, kvL 0]), .inl (6, [kvI 0, kvI 0, kvI 0, kvI 0, kvI 0, kvL 0, kvL 0, kvL 0]), .inl (6, [kvI 0, kvI 0, kvI 0, kvI 0, kvI 0, kvL 0, kvL 0, kvL 0]), .inl (6, [kvI 0, kvI 0, kvI 0, kvI 0, kvI 0, kvL 0, kvL 0, kvL 0]), .inl (6, [kvI 0, kvI 0, kvI 0, kvI 0, kvI 0, kvL 0, kvL 0, kvL 0]), .inl (6, [kvI 0, kvI 0, kvI 0, kvI 0, kvI 0, kvL 0, kvL 0, kvL 0]), .inl (6, [kvI 0, kvI 0, kvI 0, kvI 0, kvI 0, kvL 0, kvL 0, kvL 0]), .inl (4, [kvR 1, kvR 72, kvI 0, kvI 0, kvI 0, kvI 0, kvI 0, kvI 0, kvI (-1)]), .inl (9, [kvI 0, kvR 129, kvR 142, kvR 143, kvI 0]), .inl (8, [kvI 0, kvI 0, kvI 0, kvI 0, kvI 0, kvI 0, kvI 0, kvR 130, kvI 0, kvI 0, kvR 131, kvI 0, kvR 136, kvI 0, kvI 0, kvR 137, kvR 138, kvR 139, kvR 140]), .inr (0, 4, .inl []), .inl (0, [kvR 132, kvR 133, kvR 134, kvR 135]), .inr (0, 10, .inl []), .inr (0, 10, .inl []), .inr (0, 10, .inl []), .inr (0, 10, .inl []), .inr (0, 4, .inl []), .inr (0, 12, .inl []), .inr (0, 12, .inl []), .inr (0, 20, .inl []), .inl (3, [kvI 0, kvI 0, kvR 141]), .inr (0, 10, .inl []), .inl (6, [kvI 0, kvI 0, kvI 0, kvI 0, kvI 0, kvL 0, kvL 0, kvL 0]), .inr (4, 40, .inr [(39, .inl 183), (38, .inl 182), (37, .inl 181), (36, .inl 180), (35, .inl 179), (34, .inl 178), (33, .inl 177), (32, .inl 176), (31, .inl 175), (30, .inl 174), (29, .inl 173), (28, .inl 172), (27, .inl 171), (26, .inl 170), (25, .inl 169), (24, .inl 168), (23, .inl 167), (22, .inl 166), (21, .inl 165), (20, .inl 164), (19, .inl 163), (18, .inl 162), (17, .inl 161), (16, .inl 160), (15, .inl 159), (14, .inl 158), (13, .inl 157), (12, .inl 156), (11, .inl 155), (10, .inl 154), (9, .inl 153), (8, .inl 152), (7, .inl 151), (6, .inl 150), (5, .inl 149), (4, .inl 148), (3, .inl 147), (2, .inl 146), (1, .inl 145), (0, .inl 144)]), .inl (6, [kvI 0, kvI 0, kvI 0, kvI 0, kvI 0, kvL 0, kvL 0, kvL 0]), .inl (6, [kvI 0, kvI 0, kvI 0, kvI 0, kvI 0, kvL 0, kvL 0, kvL 0]), .inl (6, [kvI 0, kvI 0, kvI 0, kvI 0, kvI 0, kvL 0, kvL 0, kvL 0]), .inl (6, [kvI 0, kvI 0, kvI 0, kvI 0, kvI 0, kvL 0, kvL 0, kvL 0]), .inl (6, [kvI 0, kvI 0, kvI 0, kvI 0, kvI 0, kvL 0, kvL 0, kvL 0]), .inl (6, [kvI 0, kvI 0, kvI 0, kvI 0, kvI 0, kvL 0, kvL 0, kvL 0]), .inl (6, [kvI 0, kvI 0, kvI 0, kvI 0, kvI 0, kvL 0, kvL 0, kvL 0]), .inl (6, [kvI 0, kvI 0, kvI 0, kvI 0, kvI 0, kvL 0, kvL 0, kvL 0]), .inl (6, [kvI 0, kvI 0, kvI 0, kvI 0, kvI 0, kvL 0, kvL 0, kvL 0]), .inl (6, [kvI 0, kvI 0, kvI 0, kvI 0, kvI 0, kvL 0, kvL 0, kvL 0]), .inl (6, [kvI 0, kvI 0, kvI 0, kvI 0, kvI 0, kvL 0, kvL 0, kvL 0]), .inl (6, [kvI 0, kvI 0, kvI 0, kvI 0, kvI 0, kvL 0, kvL 0, kvL 0]), .inl (6, [kvI 0, kvI 0, kvI 0, kvI 0, kvI 0, kvL 0, kvL 0, kvL 0]), .inl (6, [kvI 0, kvI 0, kvI 0, kvI 0, kvI 0, kvL 0, kvL 0, kvL 0]), .inl (6, [kvI 0, kvI 0, kvI 0, kvI 0, kvI 0, kvL 0, kvL 0, kvL 0]), .inl (6, [kvI 0, kvI 0, kvI 0, kvI 0, kvI 0, kvL 0, kvL 0, kvL 0]), .inl (6, [kvI 0, kvI 0, kvI 0, kvI 0, kvI 0, kvL 0, kvL 0, kvL 0]), .inl (6, [kvI 0, kvI 0, kvI 0, kvI 0, kvI 0, kvL 0, kvL 0, kvL 0]), .inl (6, [kvI 0, kvI 0, kvI 0, kvI 0, kvI 0, kvL 0, kvL 0, kvL 0]), .inl (6, [kvI 0, kvI 0, kvI 0, kvI 0, kvI 0, kvL 0, kvL 0, kvL 0]), .inl (6, [kvI 0, kvI 0, kvI 0, kvI 0, kvI 0, kvL 0, kvL 0, kvL 0]), .inl (6, [kvI 0, kvI 0, kvI 0, kvI 0, kvI 0, kvL 0, kvL 0, kvL 0]), .inl (6, [kvI 0, kvI 0, kvI 0, kvI 0, kvI 0, kvL 0, kvL 0, kvL 0]), .inl (6, [kvI 0, kvI 0, kvI 0, kvI 0, kvI 0, kvL 0, kvL 0, kvL 0]), .inl (6, [kvI 0, kvI 0, kvI 0, kvI 0, kvI 0, kvL 0, kvL 0, kvL 0]), .inl (6, [kvI 0, kvI 0, kvI 0, kvI 0, kvI 0, kvL 0, kvL 0, kvL 0]), .inl (6, [kvI 0, kvI 0, kvI 0, kvI 0, kvI 0, kvL 0, kvL 0, kvL 0]), .inl (6, [kvI 0, kvI 0, kvI 0, kvI 0, kvI 0, kvL 0, kvL 0, kvL 0]), .inl (6, [kvI 0, kvI 0, kvI 0, kvI 0, kvI 0, kvL 0, kvL 0, kvL 0]), .inl (6, [kvI 0, kvI 0, kvI 0, kvI 0, kvI 0, kvL 0, kvL 0, kvL 0]), .inl (6, [kvI 0, kvI 0, kvI 0, kvI 0, kvI 0, kvL 0, kvL 0, kvL 0]), .inl (6, [kvI 0, kvI 0, kvI 0, kvI 0, kvI 0, kvL 0, kvL 0, kvL 0]), .inl (6, [kvI 0, kvI 0, kvI 0, kvI 0, kvI 0, kvL 0, kvL 0, kvL 0]), .inl (6, [kvI 0, kvI 0, kvI 0, kvI 0, kvI 0, kvL 0, kvL 0, kvL 0]), .inl (6, [kvI 0, kvI 0, kvI 0, kvI 0, kvI 0, kvL 0, kvL 0, kvL 0]), .inl (6, [kvI 0, kvI 0, kvI 0, kvI 0, kvI 0, kvL 0, kvL 0, kvL 0]), .inl (6, [kvI 0, kvI 0, kvI 0, kvI 0, kvI 0, kvL 0, kvL 0, kvL 0]), .inl (6, [kvI 0, kvI 0, kvI 0, kvI 0, kvI 0, kvL 0, kvL 0, kvL 0]), .inl (6, [kvI 0, kvI 0, kvI 0, kvI 0, kvI 0, kvL 0, kvL 0, kvL 0]), .inl (6, [kvI 0, kvI 0, kvI 0, kvI 0, kvI 0, kvL 0, kvL 0, kvL 0]), .inl (9, [kvI 0, kvR 185, kvR 198, kvR 199, kvI 0]), .inl (8, [kvI 0, kvI 0, kvI 0, kvI 0, kvI 0, kvI 0, kvI 0, kvR 186, kvI 0, kvI 0, kvR 187, kvI 0, kvR 192, kvI 0, kvI 0, kvR 193, kvR 194, kvR 195, kvR 196]), .inr (0, 4, .inl []), .inl (0, [kvR 188, kvR 189, kvR 190, kvR 191]), .inr (0, 10, .inl []), .inr (0, 10, .inl []), .inr (0, 10, .inl []), .inr (0, 10, .inl []), .inr (0, 4, .inl []), .inr (0, 12, .inl []), .inr (0, 12, .inl []), .inr (0, 20, .inl []), .inl (3, [kvI 0, kvI 0, kvR 197]), .inr (0, 10, .inl []), .inl (6, [kvI 0, kvI 0, kvI 0, kvI 0, kvI 0, kvL 0, kvL 0, kvL 0]), .inr (4, 40, .inr [(39, .inl 239), (38, .inl 238), (37, .inl 237), (36, .inl 236), (35, .inl 235), (34, .inl 234), (33, .inl 233), (32, .inl 232), (31, .inl 231), (30, .inl 230), (29, .inl 229), (28, .inl 228), (27, .inl 227), (26, .inl 226), (25, .inl 225), (24, .inl 224), (23, .inl 223), (22, .inl 222), (21, .inl 221), (20, .inl 220), (19, .inl 219), (18, .inl 218), (17, .inl 217), (16, .inl 216), (15, .inl 215), (14, .inl 214), (13, .inl 213), (12, .inl 212), (11, .inl 211), (10, .inl 210), (9, .inl 209), (8, .inl 208), (7, .inl 207), (6, .inl 206), (5, .inl 205), (4, .inl 204), (3, .inl 203), (2, .inl 202), (1, .inl 201), (0, .inl 200)]), .inl (6, [kvI 0, kvI 0, kvI 0, kvI 0, kvI 0, kvL 0, kvL 0, kvL 0]), .inl (6, [kvI 0, kvI 0, kvI 0, kvI 0, kvI 0, kvL 0, kvL 0, kvL 0]), .inl (6, [kvI 0, kvI 0, kvI 0, kvI 0, kvI 0, kvL 0, kvL 0, kvL 0]), .inl (6, [kvI 0, kvI 0, kvI 0, kvI 0, kvI 0, kvL 0, kvL 0, kvL 0]), .inl (6, [kvI 0, kvI 0, kvI 0, kvI 0, kvI 0, kvL 0, kvL 0, kvL 0]), .inl (6, [kvI 0, kvI 0, kvI 0, kvI 0, kvI 0, kvL 0, kvL 0, kvL 0]), .inl (6, [kvI 0, kvI 0, kvI 0, kvI 0, kvI 0, kvL 0, kvL 0, kvL 0]), .inl (6, [kvI 0, kvI 0, kvI 0, kvI 0, kvI 0, kvL 0, kvL 0, kvL 0]), .inl (6, [kvI 0, kvI 0, kvI 0, kvI 0, kvI 0, kvL 0, kvL 0, kvL 0]), .inl (6, [kvI 0, kvI 0, kvI 0, kvI 0, kvI 0, kvL 0, kvL 0, kvL 0]), .inl (6, [kvI 0, kvI 0, kvI 0, kvI 0, kvI 0, kvL 0, kvL 0, kvL 0]), .inl (6, [kvI 0, kvI 0, kvI 0, kvI 0, kvI 0, kvL 0, kvL 0, kvL 0]), .inl (6, [kvI 0, kvI 0, kvI 0, kvI 0, kvI 0, kvL 0, kvL 0, kvL 0]), .inl (6, [kvI 0, kvI 0, kvI 0, kvI 0, kvI 0, kvL 0, kvL 0, kvL 0]), .inl (6, [kvI 0, kvI 0, kvI 0, kvI 0, kvI 0, kvL 0, kvL 0, kvL 0]), .inl (6, [kvI 0, kvI 0, kvI 0, kvI 0, kvI 0, kvL 0, kvL 0, kvL 0]), .inl (6, [kvI 0, kvI 0, kvI 0, kvI 0, kvI 0, kvL 0, kvL 0, kvL 0]), .inl (6, [kvI 0, kvI 0, kvI 0, kvI 0, kvI 0, kvL 0, kvL 0, kvL 0]), .inl (6, [kvI 0, kvI 0, kvI 0, kvI 0, kvI 0, kvL 0, kvL 0, kvL 0]), .inl (6, [kvI 0, kvI 0, kvI 0, kvI 0, kvI 0, kvL 0, kvL 0, kvL 0]), .inl (6, [kvI 0, kvI 0, kvI 0, kvI 0, kvI 0, kvL 0, kvL 0, kvL 0]), .inl (6, [kvI 0, kvI 0, kvI 0, kvI 0, kvI 0, kvL 0, kvL 0, kvL 0]), .inl (6, [kvI 0, kvI 0, kvI 0, kvI 0, kvI 0, kvL 0, kvL 0, kvL 0]), .inl (6, [kvI 0, kvI 0, kvI 0, kvI 0, kvI 0, kvL 0, kvL 0, kvL 0]), .inl (6, [kvI 0, kvI 0, kvI 0, kvI 0, kvI 0, kvL 0, kvL 0, kvL 0]), .inl (6, [kvI 0, kvI 0, kvI 0, kvI 0, kvI 0, kvL 0, kvL 0, kvL 0]), .inl (6, [kvI 0, kvI 0, kvI 0, kvI 0, kvI 0, kvL 0, kvL 0, kvL 0]), .inl (6, [kvI 0, kvI 0, kvI 0, kvI 0, kvI 0, kvL 0, kvL 0, kvL 0]), .inl (6, [kvI 0, kvI 0, kvI 0, kvI 0, kvI 0, kvL 0, kvL 0, kvL 0]), .inl (6, [kvI 0, kvI 0, kvI 0, kvI 0, kvI 0, kvL 0, kvL 0, kvL 0]), .inl (6, [kvI 0, kvI 0, kvI 0, kvI 0, kvI 0, kvL 0, kvL 0, kvL 0]), .inl (6, [kvI 0, kvI 0, kvI 0, kvI 0, kvI 0, kvL 0, kvL 0, kvL 0]), .inl (6, [kvI 0, kvI 0, kvI 0, kvI 0, kvI 0, kvL 0, kvL 0, kvL 0]), .inl (6, [kvI 0, kvI 0, kvI 0, kvI 0, kvI 0, kvL 0, kvL 0, kvL 0]), .inl (6, [kvI 0, kvI 0, kvI 0, kvI 0, kvI 0, kvL 0, kvL 0, kvL 0]), .inl (6, [kvI 0, kvI 0, kvI 0, kvI 0, kvI 0, kvL 0, kvL 0, kvL 0]), .inl (6, [kvI 0, kvI 0, kvI 0, kvI 0, kvI 0, kvL 0, kvL 0, kvL 0]), .inl (6, [kvI 0, kvI 0, kvI 0, kvI 0, kvI 0, kvL 0, kvL 0, kvL 0]), .inl (6, [kvI 0, kvI 0, kvI 0, kvI 0, kvI 0, kvL 0, kvL 0, kvL 0]), .inl (6, [kvI 0, kvI 0, kvI 0, kvI 0, kvI 0, kvL 0, kvL 0, kvL 0]), .inl (9, [kvI 0, kvR 241, kvR 254, kvR 255, kvI 0]), .inl (8, [kvI 0, kvI 0, kvI 0, kvI 0, kvI 0, kvI 0, kvI 0, kvR 242, kvI 0, kvI 0, kvR 243, kvI 0, kvR 248, kvI 0, kvI 0, kvR 249, kvR 250, kvR 251, kvR 252]), .inr (0, 4, .inl []), .inl (0, [kvR 244, kvR 245, kvR 246, kvR 247]), .inr (0, 10, .inl []), .inr (0, 10, .inl []), .inr (0, 10, .inl []), .inr (0, 10, .inl []), .inr (0, 4, .inl []), .inr (0, 12, .inl []), .inr (0, 12, .inl []), .inr (0, 20, .inl []), .inl (3, [kvI 0, kvI 0, kvR 253]), .inr (0, 10, .inl []), .inl (6, [kvI 0, kvI 0, kvI 0, kvI 0, kvI 0, kvL 0, kvL 0, kvL 0]), .inr (4, 40, .inr [(39, .inl 295), (38, .inl 294), (37, .inl 293), (36, .inl 292), (35, .inl 291), (34, .inl 290), (33, .inl 289), (32, .inl 288), (31, .inl 287), (30, .inl 286), (29, .inl 285), (28, .inl 284), (27, .inl 283), (26, .inl 282), (25, .inl 281), (24, .inl 280), (23, .inl 279), (22, .inl 278), (21, .inl 277), (20, .inl 276), (19, .inl 275), (18, .inl 274), (17, .inl 273), (16, .inl 272), (15, .inl 271), (14, .inl 270), (13, .inl 269), (12, .inl 268), (11, .inl 267), (10, .inl 266), (9, .inl 265), (8, .inl 264), (7, .inl 263), (6, .inl 262), (5, .inl 261), (4, .inl 260), (3, .inl 259), (2, .inl 258), (1, .inl 257), (0, .inl 256)]), .inl (6, [kvI 0, kvI 0, kvI 0, kvI 0, kvI 0, kvL 0, kvL 0, kvL 0]), .inl (6, [kvI 0, kvI 0, kvI 0, kvI 0, kvI 0, kvL 0, kvL 0, kvL 0]), .inl (6, [kvI 0, kvI 0, kvI 0, kvI 0, kvI 0, kvL 0, kvL 0, kvL 0]), .inl (6, [kvI 0, kvI 0, kvI 0, kvI 0, kvI 0, kvL 0, kvL 0, kvL 0]), .inl (6, [kvI 0, kvI 0, kvI 0, kvI 0, kvI 0, kvL 0, kvL 0, kvL 0]), .inl (6, [kvI 0, kvI 0, kvI 0, kvI 0, kvI 0, kvL 0, kvL 0, kvL 0]), .inl (6, [kvI 0, kvI 0, kvI 0, kvI 0, kvI 0, kvL 0, kvL 0, kvL 0]), .inl (6, [kvI 0, kvI 0, kvI 0, kvI 0, kvI 0, kvL 0, kvL 0, kvL 0]), .inl (6, [kvI 0, kvI 0, kvI 0, kvI 0, kvI 0, kvL 0, kvL 0, kvL 0]), .inl (6, [kvI 0, kvI 0, kvI 0, kvI 0, kvI 0, kvL 0, kvL 0, kvL 0]), .inl (6, [kvI 0, kvI 0, kvI 0, kvI 0, kvI 0, kvL 0, kvL 0, kvL 0]), .inl (6, [kvI 0, kvI 0, kvI 0, kvI 0, kvI 0, kvL 0, kvL 0, kvL 0]), .inl (6, [kvI 0, kvI 0, kvI 0, kvI 0, kvI 0, kvL 0, kvL 0, kvL 0]), .inl (6, [kvI 0, kvI 0, kvI 0, kvI 0, kvI 0, kvL 0, kvL 0, kvL 0]), .inl (6, [kvI 0, kvI 0, kvI 0, kvI 0, kvI 0, kvL 0, kvL 0, kvL 0]), .inl (6, [kvI 0, kvI 0, kvI 0, kvI 0, kvI 0, kvL 0, kvL 0, kvL 0]), .inl (6, [kvI 0, kvI 0, kvI 0, kvI 0, kvI 0, kvL 0, kvL 0, kvL 0]), .inl (6, [kvI 0, kvI 0, kvI 0, kvI 0, kvI 0, kvL 0, kvL 0, kvL 0]), .inl (6, [kvI 0, kvI 0, kvI 0, kvI 0, kvI 0, kvL 0, kvL 0, kvL 0]), .inl (6, [kvI 0, kvI 0, kvI 0, kvI 0, kvI 0, kvL 0, kvL 0, kvL 0]), .inl (6, [kvI 0, kvI 0, kvI 0, kvI 0, kvI 0, kvL 0, kvL 0, kvL 0]), .inl (6, [kvI 0, kvI 0, kvI 0, kvI 0, kvI 0, kvL 0, kvL 0, kvL 0]), .inl (6, [kvI 0, kvI 0, kvI 0, kvI 0, kvI 0, kvL 0, kvL 0, kvL 0]), .inl (6, [kvI 0, kvI 0, kvI 0, kvI 0, kvI 0, kvL 0, kvL 0, kvL 0]), .inl (6, [kvI 0, kvI 0, kvI 0, kvI 0, kvI 0, kvL 0, kvL 0, kvL 0]), .inl (6, [kvI 0, kvI 0, kvI 0, kvI 0, kvI 0, kvL 0, kvL 0, kvL 0]), .inl (6, [kvI 0, kvI 0, kvI 0, kvI 0, kvI 0, kvL 0, kvL 0, kvL 0]), .inl (6, [kvI 0, kvI 0, kvI 0, kvI 0, kvI 0, kvL 0, kvL 0, kvL 0]), .inl (6, [kvI 0, kvI 0, kvI 0, kvI 0, kvI 0, kvL 0, kvL 0, kvL 0]), .inl (6, [kvI 0, kvI 0, kvI 0, kvI 0, kvI 0, kvL 0, kvL 0, kvL 0]), .inl (6, [kvI 0, kvI 0, kvI 0, kvI 0, kvI 0, kvL 0, kvL 0, kvL 0]), .inl (6, [kvI 0, kvI 0, kvI 0, kvI 0, kvI 0, kvL 0, kvL 0, kvL 0]), .inl (6, [kvI 0, kvI 0, kvI 0, kvI 0, kvI 0, kvL 0, kvL 0, kvL 0]), .inl (6, [kvI 0, kvI 0, kvI 0, kvI 0, kvI 0, kvL 0, kvL 0, kvL 0]), .inl (6, [kvI 0, kvI 0, kvI 0, kvI 0, kvI 0, kvL 0, kvL 0, kvL 0]), .inl (6, [kvI 0, kvI 0, kvI 0, kvI 0, kvI 0, kvL 0, kvL 0, kvL 0]), .inl (6, [kvI 0, kvI 0, kvI 0, kvI 0, kvI 0, kvL 0, kvL 0, kvL 0]), .inl (6, [kvI 0, kvI 0, kvI 0, kvI 0, kvI 0, kvL 0, kvL 0, kvL 0]), .inl (6, [kvI 0, kvI 0, kvI 0, kvI 0, kvI 0, kvL 0, kvL 0, kvL 0]), .inl (6, [kvI 0, kvI 0, kvI 0, kvI 0, kvI 0, kvL 0, kvL 0, kvL 0]), .inl (5, [kvI 0, kvI 0, kvI 0, kvR 297]), .inr (1, 60, .inl []), .inl (5, [kvI 0, kvI 0, kvI 0, kvR 299]), .inr (1, 60, .inl []), .inl (5, [kvI 0, kvI 0, kvI 0, kvR 301]), .inr (1, 60, .inl []), .inl (5, [kvI 0, kvI 0, kvI 0, kvR 303]), .inr (1, 60, .inl []), .inl (11, [kvI 0, kvR 305, kvR 306, kvR 307, kvR 308, kvR 309, kvI 0, kvI 0, kvI 0, kvI 0, kvI 0, kvL 0, kvI 0, kvI 0, kvI 0, kvI (-1), kvR 310, kvR 311, kvR 312, kvR 313, kvR 314, kvR 315, kvR 316, kvR 317, kvI 0, kvI 0, kvI 0, kvI 0, kvI 0, kvI 0, kvL 0, kvL 0, kvR 318, kvL 0, kvI 0, kvI 0, kvI 0, kvI 0, kvI 0, kvI 0, kvI 0, kvI 0, kvI 0, kvI 0, kvI 0, kvR 319, kvI 0, kvI 0, kvR 320]), .inr (0, 4, .inl [(3, (-1)), (2, (-1)), (1, (-1)), (0, (-1))]), .inr (0, 4, .inl []), .inr (1, 240, .inl []), .inr (1, 60, .inl []), .inr (2, 1400, .inl []), .inr (0, 5, .inl []), .inr (0, 65, .inl []), .inr (0, 20, .inl []), .inr (0, 240, .inl []), .inr (0, 20, .inl []), .inr (0, 120, .inl []), .inr (0, 1000, .inl []), .inr (3, 3, .inl []), .inr (0, 60, .inl []), .inr (3, 5120, .inl []), .inr (0, 11264, .inl [])]
theorem KL_run : krun kt_L 4 5 321 26018 code 16 (KL, [(2, kvR 304), (1, kvR 0), (0, kvE 0)], 321, 26018) 11 (0, [], [(0, kvE 0)], [], 0, 0) = true := by decide +kernel
abbrev F00 (t : Nat → ClassId) (lo b : Nat) : Nat → va_E := px_f lo (KL.map (kcell t lo [b]))
theorem typ_c (t : Nat → ClassId) (lo b : Nat) : TYP (Ec true) (xtc t lo) t lo (F00 t lo b) := TYP_made (o := 0) (by decide +kernel)
theorem typ_m (t : Nat → ClassId) (lo b : Nat) : TYP Em (xtm (fun _ _ _ => True) t) t (lo + 304) (F00 t lo b) := TYP_made (o := 304) (by decide +kernel)
/-- what a fresh cell holds at a place: an int -/
def kcv (c : KC) (k : Nat) : Option Int := match c with
  | .inl (_, fs) => (match fs[k]? with
    | some v => (match v with
      | .inl n => some n
      | _ => none)
    | none => none)
  | .inr (tt, z, .inl us) => if tt ≠ 1 ∧ k < z then some ((klook us k).getD 0) else none
  | _ => none
theorem kI_at : ∀ {us : List (Nat × Int)} {k : Nat}, kI us k = Int32.ofInt ((klook us k).getD 0)
  | [], k => rfl
  | (j, x) :: us, k => by
    simp only [kI, klook]
    by_cases c : k = j
    · subst c
      rw [pk_us, if_pos rfl]
      rfl
    · rw [pk_un c, if_neg (fun q => c q.symm)]
      exact kI_at
theorem kcv_ok {t : Nat → ClassId} {lo k : Nat} {ext : List Nat} {c : KC} {n : Int} (h : kcv c k = some n) : cellv (kcell t lo ext c) k = some (.int (Int32.ofInt n)) := by
  match c, h with
  | .inl (ci, fs), h =>
    simp only [kcv] at h
    cases hf : fs[k]? with
    | none => rw [hf] at h; cases h
    | some v =>
      rw [hf] at h
      match v, hf, h with
      | .inl x, hf, h =>
        cases h
        show (fs.map (kval lo ext))[k]? = _
        rw [List.getElem?_map, hf]
        rfl
  | .inr (tt, z, .inl us), h =>
    simp only [kcv] at h
    split at h
    · rename_i hh
      cases h
      simp only [kcell]
      rw [if_neg hh.1]
      show (if k < z then some (Value.int (kI us k)) else none) = _
      rw [if_pos hh.2, kI_at]
    · cases h
