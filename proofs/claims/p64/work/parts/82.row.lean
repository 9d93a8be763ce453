/-! row and write, both sides -/
def inq (q : Option (Int × Int)) (a c : Int) : Bool := match q with
  | some (u, w) => decide (a ≤ u) && decide (w ≤ c)
  | none => false
theorem inq_ok {q : Option (Int × Int)} {a c z : Int} (h : inq q a c = true) (hz : ∀ u w, q = some (u, w) → u ≤ z ∧ z ≤ w) : a ≤ z ∧ z ≤ c := by
  cases q with
  | none => cases h
  | some p =>
    obtain ⟨u, w⟩ := p
    have := hz u w rfl
    simp only [inq, Bool.and_eq_true, decide_eq_true_eq] at h
    omega
/-- of a case: is an entry of V what it was, of all from j0 on but three -/
def kpx (na j0 n : Nat) (o : XO) (ex : List Nat) : Bool := (List.range n).all (fun i => ex.contains (j0 + i) || kp1 na o (j0 + i))
theorem kpx_at {na j0 n j : Nat} {o : XO} {ex : List Nat} (h : kpx na j0 n o ex = true) (h1 : j0 ≤ j) (h2 : j < j0 + n) (h3 : j ∉ ex) : kp1 na o j = true := by
  obtain ⟨i, rfl⟩ : ∃ i, j = j0 + i := ⟨j - j0, by omega⟩
  have := List.all_eq_true.mp h i (List.mem_range.mpr (by omega))
  simp only [Bool.or_eq_true, List.contains_iff_mem] at this
  rcases this with e | e
  · exact absurd e h3
  · exact e
def rowBad (a w n : Int) : Prop := a < 0 ∨ 3 < a ∨ w < 0 ∨ 3 < w ∨ 60 < n
def rowB (o : XO) : Bool := (decide (o.2.1 = some (pI (-2) (-2))) && kcB2 4 o && (outk o.1[1]? 3 || outk o.1[2]? 3 || inq o.1[3]? 61 2147483647)) || (decide (o.2.1 = some (pI (-3) (-3))) && kcB2 4 o && inq o.1[1]? 0 3 && inq o.1[2]? 0 3 && inq o.1[3]? (-2147483648) (-1)) || (List.range 4).any (fun s => decide (o.1[1]? = some ((s : Int), (s : Int))) && inq o.1[2]? 0 3 && inq o.1[3]? 0 60 && decide (o.2.1 = some (pI 0 0)) && decide (o.2.2.1[16 + 3 * s]? = some (pI 1 1)) && decide (o.2.2.1[17 + 3 * s]? = some (pE 2 0)) && decide (o.2.2.1[18 + 3 * s]? = some (pE 3 0)) && kpx 4 13 15 o [16 + 3 * s, 17 + 3 * s, 18 + 3 * s])
theorem row_all : Md14.2.2.1.all rowB = true := by decide +kernel
/-- how row answers, and what is then in the rows: full, width, size -/
abbrev CRZ (b : Bool) (t : Nat → ClassId) (lo : Nat) (f : Nat → va_E) (a w n : Int32) : Option Value → (Nat → va_E) → Prop := fun ov f2 => IC b t lo f2 ∧ ((rowBad a.toInt w.toInt n.toInt ∧ ov = some (.int (-2)) ∧ KCL b lo f f2) ∨ ((0 ≤ a.toInt ∧ a.toInt ≤ 3 ∧ 0 ≤ w.toInt ∧ w.toInt ≤ 3 ∧ n.toInt < 0) ∧ ov = some (.int (-3)) ∧ KCL b lo f f2) ∨ ∃ s : Nat, s < 4 ∧ a = nI s ∧ (0 ≤ w.toInt ∧ w.toInt ≤ 3) ∧ (0 ≤ n.toInt ∧ n.toInt ≤ 60) ∧ ov = some (.int 0) ∧ (cv f2 (lo + (296 + 2 * s)) 0 = 1 ∧ cv f2 (lo + (296 + 2 * s)) 1 = w.toInt ∧ cv f2 (lo + (296 + 2 * s)) 2 = n.toInt) ∧ ∀ (j o k : Nat), 13 ≤ j → j ≠ 16 + 3 * s → j ≠ 17 + 3 * s → j ≠ 18 + 3 * s → (Ec b).2.2.2[j]? = some (o, k) → cv f2 (lo + o) k = cv f (lo + o) k)
theorem D_row (b : Bool) (l : Launch) (D : va_G) (t : Nat → ClassId) (lo : Nat) {f : Nat → va_E} (hI : IC b t lo f) (a w n : Int32) : MetZ l Yd3 D t lo (Ec b).2.1.length f [.ref lo, .int a, .int w, .int n] (CRZ b t lo f a w n) := by
  refine MetZ.mono (pub_d (zs := [0, a.toInt, w.toInt, n.toInt]) (rt := 0) hI (Hd14 b l _ D t lo (twxc b t lo)) (by decide +kernel) rfl (by decide +kernel) ⟨argA b t lo, argI _ a, argI _ w, argI _ n, trivial⟩) (fun ov f2 hz => ?_)
  obtain ⟨-, h2, o, ho, hO⟩ := hz
  have hb := List.all_eq_true.mp row_all o ho
  have e1 : ∀ u x, o.1[1]? = some (u, x) → u ≤ a.toInt ∧ a.toInt ≤ x := fun u x h => hO.1 1 u x _ h rfl
  have e2 : ∀ u x, o.1[2]? = some (u, x) → u ≤ w.toInt ∧ w.toInt ≤ x := fun u x h => hO.1 2 u x _ h rfl
  have e3 : ∀ u x, o.1[3]? = some (u, x) → u ≤ n.toInt ∧ n.toInt ≤ x := fun u x h => hO.1 3 u x _ h rfl
  unfold rowB at hb
  simp only [Bool.or_eq_true, Bool.and_eq_true, decide_eq_true_eq] at hb
  refine ⟨h2, ?_⟩
  rcases hb with (⟨⟨h3, h4⟩, h5⟩ | ⟨⟨⟨⟨h3, h4⟩, h5⟩, h6⟩, h7⟩) | hb
  · obtain ⟨i, q1, q2⟩ := ans_c hO h3
    refine Or.inl ⟨?_, ov_c q1 (by rw [q2]; rfl), KC_of2 (zs := [0, a.toInt, w.toInt, n.toInt]) hO h4⟩
    rcases h5 with (h5 | h5) | h5
    · have := outk_ok h5 e1
      unfold rowBad; omega
    · have := outk_ok h5 e2
      unfold rowBad; omega
    · have := inq_ok h5 e3
      unfold rowBad; omega
  · obtain ⟨i, q1, q2⟩ := ans_c hO h3
    have r1 := inq_ok h5 e1
    have r2 := inq_ok h6 e2
    have r3 := inq_ok h7 e3
    exact Or.inr (Or.inl ⟨⟨r1.1, r1.2, r2.1, r2.2, by omega⟩, ov_c q1 (by rw [q2]; rfl), KC_of2 (zs := [0, a.toInt, w.toInt, n.toInt]) hO h4⟩)
  · obtain ⟨s, hs, hb⟩ := List.any_eq_true.mp hb
    rw [List.mem_range] at hs
    simp only [Bool.and_eq_true, decide_eq_true_eq] at hb
    obtain ⟨⟨⟨⟨⟨⟨⟨h1, h3⟩, h4⟩, h5⟩, h6⟩, h7⟩, h8⟩, h9⟩ := hb
    have r1 := e1 s s h1
    obtain ⟨i, q1, q2⟩ := ans_c hO h5
    obtain ⟨t1, t2, t3, -, -, -⟩ := trc_r (b := b) hs
    obtain ⟨x, x1, x2, x3, x4⟩ := out_box hO t1 h6
    obtain ⟨y, y1, y2, y3⟩ := out_num hO t2 h7 (z := w.toInt) rfl
    obtain ⟨z, z1, z2, z3⟩ := out_num hO t3 h8 (z := n.toInt) rfl
    refine Or.inr (Or.inr ⟨s, hs, toI (by omega) (by omega), inq_ok h3 e2, inq_ok h4 e3, ov_c q1 (by rw [q2]; rfl), ⟨by omega, by omega, by omega⟩, fun j o' k hj n1 n2 n3 hp => ?_⟩)
    have hlt : j < 28 := by rw [← trc_len b]; exact (List.getElem?_eq_some_iff.mp hp).1
    exact kp1_ok (zs := [0, a.toInt, w.toInt, n.toInt]) hO hp (kpx_at h9 hj (by omega) (by simp only [List.mem_cons, List.not_mem_nil, or_false]; omega))
def wrtB (o : XO) : Bool := kcB2 4 o && ((outk o.1[1]? 3 && decide (o.2.1 = some (pI (-2) (-2)))) || (List.range 4).any (fun s => decide (o.1[1]? = some ((s : Int), (s : Int))) && ((decide (o.2.1 = some (pI (-6) (-6))) && decide (o.1[4 + (16 + 3 * s)]? = some (0, 0))) || (decide (o.2.1 = some (pI (-7) (-7))) && decide (o.1[4 + (16 + 3 * s)]? = some (1, 1)) && (inq o.1[2]? (-2147483648) (-1) || decide ((4 + (18 + 3 * s), 2, (0 : Int)) ∈ o.2.2.2))) || (decide (o.2.1 = some (pI 0 0)) && decide (o.1[4 + (16 + 3 * s)]? = some (1, 1)) && inq o.1[2]? 0 2147483647 && decide ((2, 4 + (18 + 3 * s), (-1 : Int)) ∈ o.2.2.2)))))
theorem wrt_all : Md5.2.2.1.all wrtB = true := by decide +kernel
/-- how write answers: of full and size -/
def wrA (fu sz i : Int) (ov : Option Value) : Prop := (fu = 0 ∧ ov = some (.int (-6))) ∨ (fu = 1 ∧ (i < 0 ∨ sz ≤ i) ∧ ov = some (.int (-7))) ∨ (fu = 1 ∧ 0 ≤ i ∧ i < sz ∧ ov = some (.int 0))
abbrev CWZ (b : Bool) (t : Nat → ClassId) (lo : Nat) (f : Nat → va_E) (a i : Int32) : Option Value → (Nat → va_E) → Prop := fun ov f2 => IC b t lo f2 ∧ KCL b lo f f2 ∧ (((a.toInt < 0 ∨ 3 < a.toInt) ∧ ov = some (.int (-2))) ∨ ∃ s : Nat, s < 4 ∧ a = nI s ∧ wrA (cv f (lo + (296 + 2 * s)) 0) (cv f (lo + (296 + 2 * s)) 2) i.toInt ov)
theorem D_write (b : Bool) (l : Launch) (D : va_G) (t : Nat → ClassId) (lo : Nat) {f : Nat → va_E} (hI : IC b t lo f) (a i : Int32) (v : Int64) : MetZ l Yd0 D t lo (Ec b).2.1.length f [.ref lo, .int a, .int i, .long v] (CWZ b t lo f a i) := by
  refine MetZ.mono (pub_d (zs := [0, a.toInt, i.toInt, v.toInt]) (rt := 0) hI (Hd5 b l _ D t lo (twxc b t lo)) (by decide +kernel) rfl (by decide +kernel) ⟨argA b t lo, argI _ a, argI _ i, argL _ v, trivial⟩) (fun ov f2 hz => ?_)
  obtain ⟨-, h2, o, ho, hO⟩ := hz
  have hb := List.all_eq_true.mp wrt_all o ho
  have e1 : ∀ u x, o.1[1]? = some (u, x) → u ≤ a.toInt ∧ a.toInt ≤ x := fun u x h => hO.1 1 u x _ h rfl
  have e2 : ∀ u x, o.1[2]? = some (u, x) → u ≤ i.toInt ∧ i.toInt ≤ x := fun u x h => hO.1 2 u x _ h rfl
  unfold wrtB at hb
  simp only [Bool.or_eq_true, Bool.and_eq_true, decide_eq_true_eq] at hb
  obtain ⟨h4, hb⟩ := hb
  refine ⟨h2, KC_of2 (zs := [0, a.toInt, i.toInt, v.toInt]) hO h4, ?_⟩
  rcases hb with ⟨h1, h3⟩ | hb
  · obtain ⟨x, q1, q2⟩ := ans_c hO h3
    exact Or.inl ⟨outk_ok h1 e1, ov_c q1 (by rw [q2]; rfl)⟩
  · obtain ⟨s, hs, hb⟩ := List.any_eq_true.mp hb
    rw [List.mem_range] at hs
    simp only [Bool.or_eq_true, Bool.and_eq_true, decide_eq_true_eq] at hb
    obtain ⟨h1, hb⟩ := hb
    have r1 := e1 s s h1
    obtain ⟨t1, t2, t3, -, -, -⟩ := trc_r (b := b) hs
    have gf := cvs_at (zs := [0, a.toInt, i.toInt, v.toInt]) (f := f) (lo := lo) t1
    have gz := cvs_at (zs := [0, a.toInt, i.toInt, v.toInt]) (f := f) (lo := lo) t3
    refine Or.inr ⟨s, hs, toI (by omega) (by omega), ?_⟩
    rcases hb with (⟨h3, h5⟩ | ⟨⟨h3, h5⟩, h6⟩) | ⟨⟨⟨h3, h5⟩, h6⟩, h7⟩
    · obtain ⟨x, q1, q2⟩ := ans_c hO h3
      have := hO.1 _ 0 0 _ h5 gf
      exact Or.inl ⟨by omega, ov_c q1 (by rw [q2]; rfl)⟩
    · obtain ⟨x, q1, q2⟩ := ans_c hO h3
      have := hO.1 _ 1 1 _ h5 gf
      refine Or.inr (Or.inl ⟨by omega, ?_, ov_c q1 (by rw [q2]; rfl)⟩)
      rcases h6 with h6 | h6
      · have := inq_ok h6 e2
        exact Or.inl (by omega)
      · have := rel_at hO h6 gz (show ([0, a.toInt, i.toInt, v.toInt] ++ cvs (Ec b) lo f)[2]? = some i.toInt from rfl)
        exact Or.inr (by omega)
    · obtain ⟨x, q1, q2⟩ := ans_c hO h3
      have := hO.1 _ 1 1 _ h5 gf
      have r2 := inq_ok h6 e2
      have r3 := rel_at hO h7 (show ([0, a.toInt, i.toInt, v.toInt] ++ cvs (Ec b) lo f)[2]? = some i.toInt from rfl) gz
      exact Or.inr (Or.inr ⟨by omega, r2.1, by omega, ov_c q1 (by rw [q2]; rfl)⟩)
/-- the reference: an entry of its V that was kept -/
theorem kp1_u {lo : Nat} {t : Nat → ClassId} {zs : List Int} {o : XO} {ov : Option Value} {f f2 : Nat → va_E} (h : OOK Eu (xte Eu f t) lo (zs ++ cvs Eu lo f) o ov f2) : (∀ s, s < 4 → kp1 zs.length o (33 + s) = true → cv f2 (lo + 1) s = cv f (lo + 1) s) ∧ ∀ s, s < 4 → kp1 zs.length o (15 + s) = true → cv f2 (lo + 2) s = cv f (lo + 2) s :=
  ⟨fun s hs hk => kp1_ok h (tru_w ⟨s, hs⟩) hk, fun s hs hk => kp1_ok h (tru_m ⟨s, hs⟩) hk⟩
def kuB (na : Nat) (o : XO) (ex : List Nat) : Bool := (List.range 4).all (fun s => ex.contains s || (kp1 na o (33 + s) && kp1 na o (15 + s)))
theorem ku_ok {lo : Nat} {t : Nat → ClassId} {zs : List Int} {o : XO} {ov : Option Value} {f f2 : Nat → va_E} {ex : List Nat} (h : OOK Eu (xte Eu f t) lo (zs ++ cvs Eu lo f) o ov f2) (hk : kuB zs.length o ex = true) : ∀ s, s < 4 → s ∉ ex → cv f2 (lo + 1) s = cv f (lo + 1) s ∧ cv f2 (lo + 2) s = cv f (lo + 2) s := by
  intro s hs hn
  have := List.all_eq_true.mp hk s (List.mem_range.mpr hs)
  simp only [Bool.or_eq_true, Bool.and_eq_true, List.contains_iff_mem] at this
  rcases this with e | e
  · exact absurd e hn
  · exact ⟨(kp1_u h).1 s hs e.1, (kp1_u h).2 s hs e.2⟩
theorem KP_u {lo : Nat} {t : Nat → ClassId} {zs : List Int} {o : XO} {ov : Option Value} {f f2 : Nat → va_E} (h : OOK Eu (xte Eu f t) lo (zs ++ cvs Eu lo f) o ov f2) (hk : kuB zs.length o [] = true) (h3 : ∀ k, k < 3 → cv f2 (lo + 13) k = cv f (lo + 13) k) : KP lo f f2 := ⟨fun s hs => (ku_ok h hk s hs (by simp)).1, fun s hs => (ku_ok h hk s hs (by simp)).2, h3⟩
theorem S_undo (l : Launch) (D : va_G) (t : Nat → ClassId) (lo : Nat) {f : Nat → va_E} (hI : IM t lo f) : MetZ l Yu3 D t lo 17 f [.ref lo] (PZ 0 t lo f) := by
  refine MetZ.mono (R_undo l D t lo hI) (fun ov f2 hz => ?_)
  obtain ⟨h1, h2, h3, o, ho, hO⟩ := hz
  have hk : Mu2.2.2.1.all (fun o => kuB 1 o []) = true := by decide +kernel
  exact ⟨h1, h2, KP_u (zs := [0]) hO (List.all_eq_true.mp hk o ho) h3⟩
theorem S_anew (l : Launch) (D : va_G) (t : Nat → ClassId) (lo : Nat) {f : Nat → va_E} (hI : IM t lo f) : MetZ l Yu1 D t lo 17 f [.ref lo] (PZ 0 t lo f) := by
  refine MetZ.mono (R_anew l D t lo hI) (fun ov f2 hz => ?_)
  obtain ⟨h1, h2, h3, o, ho, hO⟩ := hz
  have hk : Mu1.2.2.1.all (fun o => kuB 1 o []) = true := by decide +kernel
  exact ⟨h1, h2, KP_u (zs := [0]) hO (List.all_eq_true.mp hk o ho) h3⟩
def urowB (o : XO) : Bool := (decide (o.2.1 = some (pI (-2) (-2))) && kuB 4 o [] && (outk o.1[1]? 3 || outk o.1[2]? 3 || inq o.1[3]? 61 2147483647)) || (decide (o.2.1 = some (pI (-3) (-3))) && kuB 4 o [] && inq o.1[1]? 0 3 && inq o.1[2]? 0 3 && inq o.1[3]? (-2147483648) (-1)) || (List.range 4).any (fun s => decide (o.1[1]? = some ((s : Int), (s : Int))) && inq o.1[2]? 0 3 && inq o.1[3]? 0 60 && decide (o.2.1 = some (pI 0 0)) && decide (o.2.2.1[33 + s]? = some (pE 2 0)) && decide (o.2.2.1[15 + s]? = some (pE 3 0)) && kuB 4 o [s])
theorem urow_all : Mu8.2.2.1.all urowB = true := by decide +kernel
abbrev URZ (t : Nat → ClassId) (lo : Nat) (f : Nat → va_E) (a w n : Int32) : Option Value → (Nat → va_E) → Prop := fun ov f2 => IM t lo f2 ∧ ((rowBad a.toInt w.toInt n.toInt ∧ ov = some (.int (-2)) ∧ KP lo f f2) ∨ ((0 ≤ a.toInt ∧ a.toInt ≤ 3 ∧ 0 ≤ w.toInt ∧ w.toInt ≤ 3 ∧ n.toInt < 0) ∧ ov = some (.int (-3)) ∧ KP lo f f2) ∨ ∃ s : Nat, s < 4 ∧ a = nI s ∧ (0 ≤ w.toInt ∧ w.toInt ≤ 3) ∧ (0 ≤ n.toInt ∧ n.toInt ≤ 60) ∧ ov = some (.int 0) ∧ (cv f2 (lo + 1) s = w.toInt ∧ cv f2 (lo + 2) s = n.toInt) ∧ (∀ k, k < 3 → cv f2 (lo + 13) k = cv f (lo + 13) k) ∧ ∀ u, u < 4 → u ≠ s → cv f2 (lo + 1) u = cv f (lo + 1) u ∧ cv f2 (lo + 2) u = cv f (lo + 2) u)
theorem S_row (l : Launch) (D : va_G) (t : Nat → ClassId) (lo : Nat) {f : Nat → va_E} (hI : IM t lo f) (a w n : Int32) : MetZ l Yu8 D t lo 17 f [.ref lo, .int a, .int w, .int n] (URZ t lo f a w n) := by
  refine MetZ.mono (R_row l D t lo hI a w n) (fun ov f2 hz => ?_)
  obtain ⟨-, h2, hkp, o, ho, hO⟩ := hz
  have hb := List.all_eq_true.mp urow_all o ho
  have e1 : ∀ u x, o.1[1]? = some (u, x) → u ≤ a.toInt ∧ a.toInt ≤ x := fun u x h => hO.1 1 u x _ h rfl
  have e2 : ∀ u x, o.1[2]? = some (u, x) → u ≤ w.toInt ∧ w.toInt ≤ x := fun u x h => hO.1 2 u x _ h rfl
  have e3 : ∀ u x, o.1[3]? = some (u, x) → u ≤ n.toInt ∧ n.toInt ≤ x := fun u x h => hO.1 3 u x _ h rfl
  unfold urowB at hb
  simp only [Bool.or_eq_true, Bool.and_eq_true, decide_eq_true_eq] at hb
  refine ⟨h2, ?_⟩
  rcases hb with (⟨⟨h3, h4⟩, h5⟩ | ⟨⟨⟨⟨h3, h4⟩, h5⟩, h6⟩, h7⟩) | hb
  · obtain ⟨i, q1, q2⟩ := ans_c hO h3
    refine Or.inl ⟨?_, ov_c q1 (by rw [q2]; rfl), KP_u (zs := [0, a.toInt, w.toInt, n.toInt]) hO h4 hkp⟩
    rcases h5 with (h5 | h5) | h5
    · have := outk_ok h5 e1
      unfold rowBad; omega
    · have := outk_ok h5 e2
      unfold rowBad; omega
    · have := inq_ok h5 e3
      unfold rowBad; omega
  · obtain ⟨i, q1, q2⟩ := ans_c hO h3
    have r1 := inq_ok h5 e1
    have r2 := inq_ok h6 e2
    have r3 := inq_ok h7 e3
    exact Or.inr (Or.inl ⟨⟨r1.1, r1.2, r2.1, r2.2, by omega⟩, ov_c q1 (by rw [q2]; rfl), KP_u (zs := [0, a.toInt, w.toInt, n.toInt]) hO h4 hkp⟩)
  · obtain ⟨s, hs, hb⟩ := List.any_eq_true.mp hb
    rw [List.mem_range] at hs
    simp only [Bool.and_eq_true, decide_eq_true_eq] at hb
    obtain ⟨⟨⟨⟨⟨⟨h1, h3⟩, h4⟩, h5⟩, h6⟩, h7⟩, h8⟩ := hb
    have r1 := e1 s s h1
    obtain ⟨i, q1, q2⟩ := ans_c hO h5
    obtain ⟨y, y1, y2, y3⟩ := out_num hO (tru_w ⟨s, hs⟩) h6 (z := w.toInt) rfl
    obtain ⟨z, z1, z2, z3⟩ := out_num hO (tru_m ⟨s, hs⟩) h7 (z := n.toInt) rfl
    exact Or.inr (Or.inr ⟨s, hs, toI (by omega) (by omega), inq_ok h3 e2, inq_ok h4 e3, ov_c q1 (by rw [q2]; rfl), ⟨by simp only at y2; omega, by simp only at z2; omega⟩, hkp, fun u hu hn => ku_ok (zs := [0, a.toInt, w.toInt, n.toInt]) hO h8 u hu (by simpa using hn)⟩)
def uwrtB (o : XO) : Bool := kuB 4 o [] && ((outk o.1[1]? 3 && decide (o.2.1 = some (pI (-2) (-2)))) || (List.range 4).any (fun s => decide (o.1[1]? = some ((s : Int), (s : Int))) && ((decide (o.2.1 = some (pI (-6) (-6))) && inq o.1[4 + (33 + s)]? (-1) (-1)) || (decide (o.2.1 = some (pI (-7) (-7))) && inq o.1[4 + (33 + s)]? 0 3 && (inq o.1[2]? (-2147483648) (-1) || decide ((4 + (15 + s), 2, (0 : Int)) ∈ o.2.2.2))) || (decide (o.2.1 = some (pI 0 0)) && inq o.1[4 + (33 + s)]? 0 3 && inq o.1[2]? 0 2147483647 && decide ((2, 4 + (15 + s), (-1 : Int)) ∈ o.2.2.2)))))
theorem uwrt_all : Mu7.2.2.1.all uwrtB = true := by decide +kernel
/-- how write answers: of width and number -/
def uwrA (w m i : Int) (ov : Option Value) : Prop := (w = -1 ∧ ov = some (.int (-6))) ∨ (0 ≤ w ∧ (i < 0 ∨ m ≤ i) ∧ ov = some (.int (-7))) ∨ (0 ≤ w ∧ 0 ≤ i ∧ i < m ∧ ov = some (.int 0))
abbrev UWZ (t : Nat → ClassId) (lo : Nat) (f : Nat → va_E) (a i : Int32) : Option Value → (Nat → va_E) → Prop := fun ov f2 => IM t lo f2 ∧ KP lo f f2 ∧ (((a.toInt < 0 ∨ 3 < a.toInt) ∧ ov = some (.int (-2))) ∨ ∃ s : Nat, s < 4 ∧ a = nI s ∧ uwrA (cv f (lo + 1) s) (cv f (lo + 2) s) i.toInt ov)
theorem S_write (l : Launch) (D : va_G) (t : Nat → ClassId) (lo : Nat) {f : Nat → va_E} (hI : IM t lo f) (a i : Int32) (v : Int64) : MetZ l Yu4 D t lo 17 f [.ref lo, .int a, .int i, .long v] (UWZ t lo f a i) := by
  refine MetZ.mono (R_write l D t lo hI a i v) (fun ov f2 hz => ?_)
  obtain ⟨-, h2, hkp, o, ho, hO⟩ := hz
  have hb := List.all_eq_true.mp uwrt_all o ho
  have e1 : ∀ u x, o.1[1]? = some (u, x) → u ≤ a.toInt ∧ a.toInt ≤ x := fun u x h => hO.1 1 u x _ h rfl
  have e2 : ∀ u x, o.1[2]? = some (u, x) → u ≤ i.toInt ∧ i.toInt ≤ x := fun u x h => hO.1 2 u x _ h rfl
  unfold uwrtB at hb
  simp only [Bool.or_eq_true, Bool.and_eq_true, decide_eq_true_eq] at hb
  obtain ⟨h4, hb⟩ := hb
  refine ⟨h2, KP_u (zs := [0, a.toInt, i.toInt, v.toInt]) hO h4 hkp, ?_⟩
  rcases hb with ⟨h1, h3⟩ | hb
  · obtain ⟨x, q1, q2⟩ := ans_c hO h3
    exact Or.inl ⟨outk_ok h1 e1, ov_c q1 (by rw [q2]; rfl)⟩
  · obtain ⟨s, hs, hb⟩ := List.any_eq_true.mp hb
    rw [List.mem_range] at hs
    simp only [Bool.or_eq_true, Bool.and_eq_true, decide_eq_true_eq] at hb
    obtain ⟨h1, hb⟩ := hb
    have r1 := e1 s s h1
    have gw := cvs_at (zs := [0, a.toInt, i.toInt, v.toInt]) (f := f) (lo := lo) (tru_w ⟨s, hs⟩)
    have gm := cvs_at (zs := [0, a.toInt, i.toInt, v.toInt]) (f := f) (lo := lo) (tru_m ⟨s, hs⟩)
    have ew : ∀ u x, o.1[4 + (33 + s)]? = some (u, x) → u ≤ cv f (lo + 1) s ∧ cv f (lo + 1) s ≤ x := fun u x h => hO.1 _ u x _ h gw
    refine Or.inr ⟨s, hs, toI (by omega) (by omega), ?_⟩
    rcases hb with (⟨h3, h5⟩ | ⟨⟨h3, h5⟩, h6⟩) | ⟨⟨⟨h3, h5⟩, h6⟩, h7⟩
    · obtain ⟨x, q1, q2⟩ := ans_c hO h3
      have := inq_ok h5 ew
      exact Or.inl ⟨by omega, ov_c q1 (by rw [q2]; rfl)⟩
    · obtain ⟨x, q1, q2⟩ := ans_c hO h3
      have := inq_ok h5 ew
      refine Or.inr (Or.inl ⟨by omega, ?_, ov_c q1 (by rw [q2]; rfl)⟩)
      rcases h6 with h6 | h6
      · have := inq_ok h6 e2
        exact Or.inl (by omega)
      · have := rel_at hO h6 gm (show ([0, a.toInt, i.toInt, v.toInt] ++ cvs Eu lo f)[2]? = some i.toInt from rfl)
        exact Or.inr (by simp only at this; omega)
    · obtain ⟨x, q1, q2⟩ := ans_c hO h3
      have := inq_ok h5 ew
      have r2 := inq_ok h6 e2
      have r3 := rel_at hO h7 (show ([0, a.toInt, i.toInt, v.toInt] ++ cvs Eu lo f)[2]? = some i.toInt from rfl) gm
      exact Or.inr (Or.inr ⟨by omega, r2.1, by simp only at r3; omega, ov_c q1 (by rw [q2]; rfl)⟩)
