/-! plan, image, back, row, write of the class; what both sides have in common -/
theorem ans_c {E : XE} {xt : XX} {lo : Nat} {G0 : List Int} {o : XO} {ov : Option Value} {f : Nat → va_E} {c : Int} (h : OOK E xt lo G0 o ov f) (ho : o.2.1 = some (pI c c)) : ∃ i : Int32, ov = some (.int i) ∧ i.toInt = c := by
  obtain ⟨-, h2, -⟩ := h
  rw [ho] at h2
  cases ov with
  | none => exact h2.elim
  | some v =>
    obtain ⟨i, rfl, h3, h4⟩ := h2
    exact ⟨i, rfl, by omega⟩
theorem rel_at {E : XE} {xt : XX} {lo : Nat} {G0 : List Int} {o : XO} {ov : Option Value} {f : Nat → va_E} {i j : Nat} {c x y : Int} (h : OOK E xt lo G0 o ov f) (hm : (i, j, c) ∈ o.2.2.2) (hi : G0[i]? = some x) (hj : G0[j]? = some y) : x ≤ y + c := by
  obtain ⟨-, -, vv, -, -, hr⟩ := h
  exact hr (i, j, c) hm x y (by rw [List.getElem?_append_left (List.getElem?_eq_some_iff.mp hi).1]; exact hi) (by rw [List.getElem?_append_left (List.getElem?_eq_some_iff.mp hj).1]; exact hj)
/-- the answer, the arguments and V ahead, what V tells behind -/
abbrev DZ (rt : Nat) (b : Bool) (t : Nat → ClassId) (lo : Nat) (f : Nat → va_E) (M : XM) (zs : List Int) : Option Value → (Nat → va_E) → Prop := fun ov f2 => RTy rt ov ∧ IC b t lo f2 ∧ ∃ o, o ∈ M.2.2.1 ∧ OOK (Ec b) (xtc t lo) lo (zs ++ cvs (Ec b) lo f) o ov f2
theorem pub_d {b : Bool} {l : Launch} {D : va_G} {t : Nat → ClassId} {lo rt : Nat} {f : Nat → va_E} {Y : XY} {M : XM} {vs : List Value} {zs : List Int} (hI : IC b t lo f) (H : HOLDS l (Ec b) (xtc t lo) D t lo Y M) (hV : M.2.1 = VGc) (hr : M.2.2.2 = []) (hx : M.2.2.1.all (fun o => exLR o VGc o.2.2.1 && ansB rt o) = true) (ha : AOK (xB (Ec b) lo (xtc t lo)) M.1 vs zs) : MetZ l Y D t lo (Ec b).2.1.length f vs (DZ rt b t lo f M zs) := by
  have hVm : VR (Ec b) (xtc t lo) lo M.2.1 f := by rw [hV]; exact hI.2
  have hl : (Ec b).2.2.2.length = M.2.1.length := by rw [hV, trc_len, VGc_len]
  refine MetZ.mono (MetZ.ofX H (ent_ofR hl hVm ha hr) hI.1 trivial) (fun ov f2 hz => ?_)
  obtain ⟨o, ho, hO, hT, hF⟩ := hz
  have hb := List.all_eq_true.mp hx o ho
  simp only [Bool.and_eq_true] at hb
  exact ⟨ansB_ok hO hb.2, ⟨hT, VR_exit hO hb.1⟩, o, ho, hO⟩
/-- an entry of V is as it was -/
def kp1 (na : Nat) (o : XO) (j : Nat) : Bool := match o.2.2.1[j]? with
  | some P => (match P with
    | .inr (.inr (.inl n)) => decide (n = (some (na + j), 0))
    | .inl (.inl (u, w)) => decide (o.1[na + j]? = some (u, u)) && decide (u = w)
    | _ => false)
  | none => false
theorem kp1_ok {E : XE} {xt : XX} {lo : Nat} {zs : List Int} {o : XO} {ov : Option Value} {f f2 : Nat → va_E} {j a k : Nat} (h : OOK E xt lo (zs ++ cvs E lo f) o ov f2) (hj : E.2.2.2[j]? = some (a, k)) (hk : kp1 zs.length o j = true) : cv f2 (lo + a) k = cv f (lo + a) k := by
  unfold kp1 at hk
  cases hP : o.2.2.1[j]? with
  | none => rw [hP] at hk; cases hk
  | some P =>
    rw [hP] at hk
    match P, hP, hk with
    | .inr (.inr (.inl n)), hP, hk =>
      have e : n = (some (zs.length + j), 0) := of_decide_eq_true hk
      subst e
      obtain ⟨i, a1, a2, a3⟩ := out_num h hj hP (cvs_at hj)
      omega
    | .inl (.inl (u, w)), hP, hk =>
      simp only [Bool.and_eq_true, decide_eq_true_eq] at hk
      obtain ⟨h1, rfl⟩ := hk
      obtain ⟨i, a1, a2, a3, a4⟩ := out_box h hj hP
      have := h.1 (zs.length + j) u u _ h1 (cvs_at hj)
      omega
def kcB2 (na : Nat) (o : XO) : Bool := (List.range 15).all (fun i => kp1 na o (13 + i))
theorem KC_of2 {b : Bool} {xt : XX} {lo : Nat} {zs : List Int} {o : XO} {ov : Option Value} {f f2 : Nat → va_E} (h : OOK (Ec b) xt lo (zs ++ cvs (Ec b) lo f) o ov f2) (hk : kcB2 zs.length o = true) : KCL b lo f f2 := by
  intro j a k hj hp
  have hlt : j < 28 := by rw [← trc_len b]; exact (List.getElem?_eq_some_iff.mp hp).1
  obtain ⟨i, rfl⟩ : ∃ i, j = 13 + i := ⟨j - 13, by omega⟩
  exact kp1_ok h hp (List.all_eq_true.mp hk i (List.mem_range.mpr (by omega)))
theorem argA (b : Bool) (t : Nat → ClassId) (lo : Nat) : pok (xB (Ec b) lo (xtc t lo)) (pR 0) (.ref lo) 0 := ⟨⟨lo, rfl, xB_of (i := 0) (kdc0 b) (rfl : (Ec b).1[0]? = some _)⟩, rfl⟩
theorem argI (B : Nat → Nat → Prop) (a : Int32) : pok B (pI (-2147483648) 2147483647) (.int a) a.toInt := ⟨a, rfl, rfl, Int32.le_toInt a, Int32.toInt_le a⟩
theorem argL (B : Nat → Nat → Prop) (a : Int64) : pok B (pL (-9223372036854775808) 9223372036854775807) (.long a) a.toInt := ⟨a, rfl, rfl, Int64.le_toInt a, Int64.toInt_le a⟩
theorem D_plan (b : Bool) (l : Launch) (D : va_G) (t : Nat → ClassId) (lo : Nat) {f : Nat → va_E} (hI : IC b t lo f) (a0 a1 : Int32) : MetZ l Yd14 D t lo (Ec b).2.1.length f [.ref lo, .int a0, .int a1] (CZ 2 b t lo f) := by
  refine MetZ.mono (pub_d (zs := [0, a0.toInt, a1.toInt]) (rt := 2) hI (Hd86 b l _ D t lo (twxc b t lo)) (by decide +kernel) rfl (by decide +kernel) ⟨argA b t lo, argI _ a0, argI _ a1, trivial⟩) (fun ov f2 hz => ?_)
  obtain ⟨h1, h2, o, ho, hO⟩ := hz
  have hk : Md86.2.2.1.all (fun o => kcB2 3 o) = true := by decide +kernel
  exact ⟨h1, h2, KC_of2 (zs := [0, a0.toInt, a1.toInt]) hO (List.all_eq_true.mp hk o ho)⟩
theorem trc_k0 (b : Bool) : (List.range 3).all (fun k => decide ((Ec b).2.2.2[13 + k]? = some (128 + 56 * k, 0))) = true := by cases b <;> decide +kernel
theorem trc_k {b : Bool} {k : Nat} (h : k < 3) : (Ec b).2.2.2[13 + k]? = some (128 + 56 * k, 0) := of_decide_eq_true (List.all_eq_true.mp (trc_k0 b) k (List.mem_range.mpr h))
def outk (q : Option (Int × Int)) (m : Int) : Bool := match q with
  | some (u, w) => decide (w < 0) || decide (m < u)
  | none => false
theorem outk_ok {q : Option (Int × Int)} {m z : Int} (h : outk q m = true) (hz : ∀ u w, q = some (u, w) → u ≤ z ∧ z ≤ w) : z < 0 ∨ m < z := by
  cases q with
  | none => cases h
  | some p =>
    obtain ⟨u, w⟩ := p
    have := hz u w rfl
    simp only [outk, Bool.or_eq_true, decide_eq_true_eq] at h
    omega
/-- rows as they were -/
def KR (b : Bool) (lo : Nat) (f f2 : Nat → va_E) : Prop := ∀ (j o k : Nat), 16 ≤ j → (Ec b).2.2.2[j]? = some (o, k) → cv f2 (lo + o) k = cv f (lo + o) k
def imgB (o : XO) : Bool := (outk o.1[1]? 2 && decide (o.2.1 = some (pI (-2) (-2))) && kcB2 2 o) || (List.range 3).any (fun K => decide (o.1[1]? = some ((K : Int), (K : Int))) && decide (o.2.1 = some (pI 0 0)) && decide (o.2.2.1[13 + K]? = some (pI 1 1)) && (List.range 15).all (fun i => decide (i = K) || kp1 2 o (13 + i)))
theorem img_all : Md56.2.2.1.all imgB = true := by decide +kernel
abbrev CIZ (b : Bool) (t : Nat → ClassId) (lo : Nat) (f : Nat → va_E) (k : Int32) : Option Value → (Nat → va_E) → Prop := fun ov f2 => IC b t lo f2 ∧ KR b lo f f2 ∧ ((∃ K : Nat, K < 3 ∧ k = nI K ∧ ov = some (.int 0) ∧ ∀ q, q < 3 → cv f2 (lo + (128 + 56 * q)) 0 = if q = K then 1 else cv f (lo + (128 + 56 * q)) 0) ∨ ((k.toInt < 0 ∨ 2 < k.toInt) ∧ ov = some (.int (-2)) ∧ ∀ q, q < 3 → cv f2 (lo + (128 + 56 * q)) 0 = cv f (lo + (128 + 56 * q)) 0))
theorem ov_c {ov : Option Value} {i c : Int32} (h : ov = some (.int i)) (hc : i.toInt = c.toInt) : ov = some (.int c) := by rw [h, Int32.toInt_inj.mp hc]
theorem D_image (b : Bool) (l : Launch) (D : va_G) (t : Nat → ClassId) (lo : Nat) {f : Nat → va_E} (hI : IC b t lo f) (a0 : Int32) : MetZ l Yd13 D t lo (Ec b).2.1.length f [.ref lo, .int a0] (CIZ b t lo f a0) := by
  refine MetZ.mono (pub_d (zs := [0, a0.toInt]) (rt := 0) hI (Hd56 b l _ D t lo (twxc b t lo)) (by decide +kernel) rfl (by decide +kernel) ⟨argA b t lo, argI _ a0, trivial⟩) (fun ov f2 hz => ?_)
  obtain ⟨-, h2, o, ho, hO⟩ := hz
  have hb := List.all_eq_true.mp img_all o ho
  have eb : ∀ u w, o.1[1]? = some (u, w) → u ≤ a0.toInt ∧ a0.toInt ≤ w := fun u w h => hO.1 1 u w _ h rfl
  unfold imgB at hb
  simp only [Bool.or_eq_true, Bool.and_eq_true, decide_eq_true_eq] at hb
  rcases hb with ⟨⟨h1, h3⟩, h4⟩ | hb
  · have K := KC_of2 (zs := [0, a0.toInt]) hO h4
    obtain ⟨i, e1, e2⟩ := ans_c hO h3
    exact ⟨h2, fun j o k hj hp => K j o k (by omega) hp, Or.inr ⟨outk_ok h1 eb, ov_c e1 (by rw [e2]; rfl), fun q hq => K _ _ _ (by omega) (trc_k hq)⟩⟩
  · obtain ⟨K, hK, hb⟩ := List.any_eq_true.mp hb
    rw [List.mem_range] at hK
    simp only [Bool.and_eq_true, decide_eq_true_eq] at hb
    obtain ⟨⟨⟨h1, h3⟩, h4⟩, h5⟩ := hb
    have hk := eb K K h1
    obtain ⟨i, e1, e2⟩ := ans_c hO h3
    have kp : ∀ j a k, 13 ≤ j → j < 28 → j ≠ 13 + K → (Ec b).2.2.2[j]? = some (a, k) → cv f2 (lo + a) k = cv f (lo + a) k := by
      intro j a k hj1 hj2 hj3 hj
      obtain ⟨i, rfl⟩ : ∃ i, j = 13 + i := ⟨j - 13, by omega⟩
      have := List.all_eq_true.mp h5 i (List.mem_range.mpr (by omega))
      simp only [Bool.or_eq_true, decide_eq_true_eq] at this
      rcases this with e | e
      · omega
      · exact kp1_ok (zs := [0, a0.toInt]) hO hj e
    refine ⟨h2, fun j o k hj hp => kp j o k (by omega) (by rw [← trc_len b]; exact (List.getElem?_eq_some_iff.mp hp).1) (by omega) hp, Or.inl ⟨K, hK, toI (by omega) (by omega), ov_c e1 (by rw [e2]; rfl), fun q hq => ?_⟩⟩
    by_cases c : q = K
    · subst c
      rw [if_pos rfl]
      obtain ⟨i, a1, a2, a3, a4⟩ := out_box hO (trc_k hq) h4
      omega
    · rw [if_neg c]
      exact kp (13 + q) _ _ (by omega) (by omega) (by omega) (trc_k hq)
def bckB (o : XO) : Bool := kcB2 2 o && ((outk o.1[1]? 2 && decide (o.2.1 = some (pI (-2) (-2)))) || (List.range 3).any (fun K => decide (o.1[1]? = some ((K : Int), (K : Int))) && ((decide (o.2.1 = some (pI 0 0)) && decide (o.1[2 + (13 + K)]? = some (1, 1))) || (decide (o.2.1 = some (pI (-6) (-6))) && decide (o.1[2 + (13 + K)]? = some (0, 0))))))
theorem bck_all : Md34.2.2.1.all bckB = true := by decide +kernel
abbrev CBZ (b : Bool) (t : Nat → ClassId) (lo : Nat) (f : Nat → va_E) (k : Int32) : Option Value → (Nat → va_E) → Prop := fun ov f2 => IC b t lo f2 ∧ KCL b lo f f2 ∧ ((∃ K : Nat, K < 3 ∧ k = nI K ∧ ((ov = some (.int 0) ∧ cv f (lo + (128 + 56 * K)) 0 = 1) ∨ (ov = some (.int (-6)) ∧ cv f (lo + (128 + 56 * K)) 0 = 0))) ∨ ((k.toInt < 0 ∨ 2 < k.toInt) ∧ ov = some (.int (-2))))
theorem D_back (b : Bool) (l : Launch) (D : va_G) (t : Nat → ClassId) (lo : Nat) {f : Nat → va_E} (hI : IC b t lo f) (a0 : Int32) : MetZ l Yd6 D t lo (Ec b).2.1.length f [.ref lo, .int a0] (CBZ b t lo f a0) := by
  refine MetZ.mono (pub_d (zs := [0, a0.toInt]) (rt := 0) hI (Hd34 b l _ D t lo (twxc b t lo)) (by decide +kernel) rfl (by decide +kernel) ⟨argA b t lo, argI _ a0, trivial⟩) (fun ov f2 hz => ?_)
  obtain ⟨-, h2, o, ho, hO⟩ := hz
  have hb := List.all_eq_true.mp bck_all o ho
  have eb : ∀ u w, o.1[1]? = some (u, w) → u ≤ a0.toInt ∧ a0.toInt ≤ w := fun u w h => hO.1 1 u w _ h rfl
  unfold bckB at hb
  simp only [Bool.or_eq_true, Bool.and_eq_true, decide_eq_true_eq] at hb
  obtain ⟨h4, hb⟩ := hb
  refine ⟨h2, KC_of2 (zs := [0, a0.toInt]) hO h4, ?_⟩
  rcases hb with ⟨h1, h3⟩ | hb
  · obtain ⟨i, e1, e2⟩ := ans_c hO h3
    exact Or.inr ⟨outk_ok h1 eb, ov_c e1 (by rw [e2]; rfl)⟩
  · obtain ⟨K, hK, hb⟩ := List.any_eq_true.mp hb
    rw [List.mem_range] at hK
    simp only [Bool.or_eq_true, Bool.and_eq_true, decide_eq_true_eq] at hb
    obtain ⟨h1, hb⟩ := hb
    have hk := eb K K h1
    refine Or.inl ⟨K, hK, toI (by omega) (by omega), ?_⟩
    rcases hb with ⟨h3, h5⟩ | ⟨h3, h5⟩
    · obtain ⟨i, e1, e2⟩ := ans_c hO h3
      have := hO.1 (2 + (13 + K)) 1 1 _ h5 (cvs_at (zs := [0, a0.toInt]) (trc_k hK))
      exact Or.inl ⟨ov_c e1 (by rw [e2]; rfl), by omega⟩
    · obtain ⟨i, e1, e2⟩ := ans_c hO h3
      have := hO.1 (2 + (13 + K)) 0 0 _ h5 (cvs_at (zs := [0, a0.toInt]) (trc_k hK))
      exact Or.inr ⟨ov_c e1 (by rw [e2]; rfl), by omega⟩
