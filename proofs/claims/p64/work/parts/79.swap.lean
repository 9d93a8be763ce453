/-! the class with world and spare exchanged -/
def swp : List Nat := [0, 1, 2, 3, 4, 5, 6, 7, 8, 9, 10, 11, 12, 13, 14, 32, 33, 34, 35, 36, 37, 38, 39, 40, 41, 42, 43, 44, 45, 46, 47, 48, 15, 16, 17, 18, 19, 20, 21, 22, 23, 24, 25, 26, 27, 28, 29, 30, 31, 49, 50, 51, 52, 53, 54, 55, 56, 57, 58, 59, 60, 61, 62, 63, 64, 65, 66, 67, 68, 69, 70, 71, 72, 73, 74, 75, 76, 77, 78, 79, 80, 81, 82, 83, 84, 85, 86, 87, 88, 89, 90, 91, 92, 93, 94, 95, 96, 97, 98, 99, 100, 101, 102, 103, 104, 105, 106, 107, 108]
def swk (k : Nat) : Nat := swp.getD k k
theorem Ec_K (b b' : Bool) : (Ec b).1 = (Ec b').1 := rfl
theorem kd_sw (b : Bool) : (Ec (!b)).2.1 = (Ec b).2.1.map swk := by cases b <;> decide +kernel
theorem swk_in : (List.range 109).all (fun k => decide (swk k < 109)) = true := by decide +kernel
theorem Kc_len (b : Bool) : (Ec b).1.length = 109 := by
  show Kc.length = 109
  decide +kernel
theorem swp_len : swp.length = 109 := by decide +kernel
theorem xB_sw {b : Bool} {t : Nat → ClassId} {lo k a : Nat} (h : xB (Ec b) lo (xtc t lo) k a) : xB (Ec (!b)) lo (xtc t lo) (swk k) a := by
  by_cases c : k < 109
  · obtain ⟨i, rfl, hi⟩ := xB_in h (List.getElem?_eq_getElem (show k < (Ec b).1.length by rw [Kc_len]; exact c))
    have hs : swk k < 109 := of_decide_eq_true (List.all_eq_true.mp swk_in k (List.mem_range.mpr c))
    refine xB_of (i := i) (k := swk k) ?_ (List.getElem?_eq_getElem (show swk k < (Ec (!b)).1.length by rw [Kc_len]; exact hs))
    rw [kd_sw, List.getElem?_map, hi]
    rfl
  · have e : swk k = k := by
      unfold swk
      rw [List.getD_eq_getElem?_getD, List.getElem?_eq_none (by rw [swp_len]; omega)]
      rfl
    rw [e]
    have n1 : (Ec b).1[k]? = none := List.getElem?_eq_none (by rw [Kc_len]; omega)
    have n2 : (Ec (!b)).1[k]? = none := List.getElem?_eq_none (by rw [Kc_len]; omega)
    unfold xB at h ⊢
    rw [n1] at h
    rw [n2]
    exact h
/-- a field as it was, a field as it will be: of the cell i, at the place j -/
def tcor (b : Bool) (i j : Nat) (T T' : XT) : Bool := match T, T' with
  | _, .inr (.inr _) => true
  | .inl (.inl (a, c)), .inl (.inl (a', c')) => decide (a' ≤ a) && decide (c ≤ c')
  | .inl (.inr (a, c)), .inl (.inr (a', c')) => decide (a' ≤ a) && decide (c ≤ c')
  | .inr (.inl q), .inr (.inl q') => decide (q' = swk q)
  | .inr (.inr v), .inl (.inl (a', c')) => decide ((Ec b).2.2.2[v]? = some (i, j)) && (match VGc[v]? with | some P => (match P with | .inl (.inl (u, w)) => decide (a' ≤ u) && decide (w ≤ c') | _ => false) | none => false)
  | _, _ => false
def tcorL (b : Bool) (i : Nat) : Nat → List XT → List XT → Bool
  | _, [], [] => true
  | j, T :: ts, T' :: ts' => tcor b i j T T' && tcorL b i (j + 1) ts ts'
  | _, _, _ => false
def kcor (b : Bool) (i : Nat) (κ κ' : XK) : Bool := match κ, κ' with
  | .inl (ci, ts), .inl (ci', ts') => decide (ci = ci') && tcorL b i 0 ts ts'
  | .inr (tt, z, .inl (u, w, _, bl)), .inr (tt', z', .inl (u', w', _, bl')) => decide (tt = tt' ∧ z = z' ∧ u' ≤ u ∧ w ≤ w') && bl'.isEmpty && bl.isEmpty
  | .inr (tt, z, .inr ks), .inr (tt', z', .inr ks') => decide (tt = tt' ∧ z = z' ∧ ks' = ks.map swk)
  | _, _ => false
def ccor (b : Bool) (i : Nat) : Bool := match (Ec b).2.1[i]?, (Ec (!b)).2.1[i]? with
  | some k, some k' => (match (Ec b).1[k]?, (Ec b).1[k']? with | some κ, some κ' => kcor b i κ κ' | _, _ => false)
  | _, _ => false
theorem ccor_all (b : Bool) : (List.range 303).all (fun i => ccor b (i + 1)) = true := by cases b <;> decide +kernel
section
variable {b : Bool} {t : Nat → ClassId} {lo : Nat} {f : Nat → va_E}
theorem tcor_ok {i j : Nat} {T T' : XT} {v : Value} (hV : VR (Ec b) (xtc t lo) lo VGc f ∨ ∀ (j' o k : Nat) (a c : Int), (Ec b).2.2.2[j']? = some (o, k) → VGc[j']? = some (pI a c) → ∃ x : Int32, cellv (f (lo + o)) k = some (.int x) ∧ a ≤ x.toInt ∧ x.toInt ≤ c) (h : tcor b i j T T' = true) (hc : cellv (f (lo + i)) j = some v) (ht : tok (xB (Ec b) lo (xtc t lo)) T v) : tok (xB (Ec (!b)) lo (xtc t lo)) T' v := by
  have hI : ∀ (j' o k : Nat) (a c : Int), (Ec b).2.2.2[j']? = some (o, k) → VGc[j']? = some (pI a c) → ∃ x : Int32, cellv (f (lo + o)) k = some (.int x) ∧ a ≤ x.toInt ∧ x.toInt ≤ c := by
    rcases hV with hV | hV
    · intro j' o k a c h1 h2
      obtain ⟨x, q1, -, q3, q4⟩ := VR_int hV h1 h2
      exact ⟨x, q1, q3, q4⟩
    · exact hV
  match T, T', h, ht with
  | _, .inr (.inr _), _, _ => trivial
  | .inl (.inl (a, c)), .inl (.inl (a', c')), h, ⟨x, e, h1, h2⟩ =>
    simp only [tcor, Bool.and_eq_true, decide_eq_true_eq] at h
    exact ⟨x, e, by omega, by omega⟩
  | .inl (.inr (a, c)), .inl (.inr (a', c')), h, ⟨x, e, h1, h2⟩ =>
    simp only [tcor, Bool.and_eq_true, decide_eq_true_eq] at h
    exact ⟨x, e, by omega, by omega⟩
  | .inr (.inl q), .inr (.inl q'), h, ⟨a, e, hB⟩ =>
    simp only [tcor, decide_eq_true_eq] at h
    subst h
    exact ⟨a, e, xB_sw hB⟩
  | .inr (.inr n), .inl (.inl (a', c')), h, _ =>
    simp only [tcor, Bool.and_eq_true, decide_eq_true_eq] at h
    obtain ⟨h1, h2⟩ := h
    cases hP : VGc[n]? with
    | none => rw [hP] at h2; cases h2
    | some P =>
      rw [hP] at h2
      match P, hP, h2 with
      | .inl (.inl (u, w)), hP, h2 =>
        simp only [Bool.and_eq_true, decide_eq_true_eq] at h2
        obtain ⟨x, q1, q2, q3⟩ := hI n i j u w h1 hP
        rw [hc] at q1
        cases q1
        exact ⟨x, rfl, by omega, by omega⟩
theorem tcorL_at {i : Nat} : ∀ {ts ts' : List XT} {j0 k : Nat} {T' : XT}, tcorL b i j0 ts ts' = true → ts'[k]? = some T' → ts.length = ts'.length ∧ ∃ T, ts[k]? = some T ∧ tcor b i (j0 + k) T T' = true
  | T0 :: ts, T1 :: ts', j0, 0, T', h, hk => by
    simp only [tcorL, Bool.and_eq_true] at h
    simp only [List.getElem?_cons_zero, Option.some.injEq] at hk
    subst hk
    refine ⟨?_, T0, rfl, h.1⟩
    have : ∀ (ts ts' : List XT) (j : Nat), tcorL b i j ts ts' = true → ts.length = ts'.length := by
      intro ts
      induction ts with
      | nil => intro ts' j h; cases ts' with
        | nil => rfl
        | cons _ _ => simp [tcorL] at h
      | cons x xs ih => intro ts' j h; cases ts' with
        | nil => simp [tcorL] at h
        | cons y ys =>
          simp only [tcorL, Bool.and_eq_true] at h
          simp [ih ys (j + 1) h.2]
    simp [this ts ts' (j0 + 1) h.2]
  | T0 :: ts, T1 :: ts', j0, k + 1, T', h, hk => by
    simp only [tcorL, Bool.and_eq_true] at h
    obtain ⟨l, T, a, c⟩ := tcorL_at (k := k) h.2 (by simpa using hk)
    exact ⟨by simp [l], T, by simpa using a, by rw [show j0 + (k + 1) = j0 + 1 + k by omega]; exact c⟩
  | [], [], _, _, _, _, hk => by simp at hk
  | [], _ :: _, _, _, _, h, _ => by simp [tcorL] at h
  | _ :: _, [], _, _, _, h, _ => by simp [tcorL] at h
theorem tcorL_len {i : Nat} : ∀ {ts ts' : List XT} {j : Nat}, tcorL b i j ts ts' = true → ts.length = ts'.length
  | [], [], _, _ => rfl
  | _ :: ts, _ :: ts', j, h => by
    simp only [tcorL, Bool.and_eq_true] at h
    simp [tcorL_len h.2]
  | [], _ :: _, _, h => by simp [tcorL] at h
  | _ :: _, [], _, h => by simp [tcorL] at h
theorem kcor_ok {i : Nat} {κ κ' : XK} (hI : ∀ (j' o k : Nat) (a c : Int), (Ec b).2.2.2[j']? = some (o, k) → VGc[j']? = some (pI a c) → ∃ x : Int32, cellv (f (lo + o)) k = some (.int x) ∧ a ≤ x.toInt ∧ x.toInt ≤ c) (h : kcor b i κ κ' = true) (hc : cok (xB (Ec b) lo (xtc t lo)) t κ (f (lo + i))) : cok (xB (Ec (!b)) lo (xtc t lo)) t κ' (f (lo + i)) := by
  match κ, κ', h, hc with
  | .inl (ci, ts), .inl (ci', ts'), h, ⟨fs, e1, e2, e3⟩ =>
    simp only [kcor, Bool.and_eq_true, decide_eq_true_eq] at h
    obtain ⟨rfl, h⟩ := h
    refine ⟨fs, e1, by rw [e2, tcorL_len h], fun k T' hk => ?_⟩
    obtain ⟨-, T, a1, a2⟩ := tcorL_at h hk
    obtain ⟨v, b1, b2⟩ := e3 k T a1
    rw [Nat.zero_add] at a2
    exact ⟨v, b1, tcor_ok (Or.inr hI) a2 (by rw [e1]; exact b1) b2⟩
  | .inr (tt, z, .inl (u, w, tk, bl)), .inr (tt', z', .inl (u', w', tk', bl')), h, hc =>
    simp only [kcor, Bool.and_eq_true, decide_eq_true_eq, List.isEmpty_iff] at h
    obtain ⟨⟨⟨rfl, rfl, h1, h2⟩, rfl⟩, rfl⟩ := h
    simp only [cok] at hc ⊢
    by_cases c : tt = 1
    · rw [if_pos c] at hc ⊢
      obtain ⟨g, g1, g2⟩ := hc
      exact ⟨g, g1, fun i hi => ⟨by have := g2 i hi; omega, by have := g2 i hi; omega⟩⟩
    · rw [if_neg c] at hc ⊢
      obtain ⟨g, g1, g2, -⟩ := hc
      exact ⟨g, g1, fun i hi => ⟨by have := g2 i hi; omega, by have := g2 i hi; omega⟩, fun i b hb => by simp at hb⟩
  | .inr (tt, z, .inr ks), .inr (tt', z', .inr ks'), h, ⟨g, g1, g2, g3⟩ =>
    simp only [kcor, decide_eq_true_eq] at h
    obtain ⟨rfl, rfl, rfl⟩ := h
    refine ⟨g, g1, by rw [List.length_map]; exact g2, fun i k hk => ?_⟩
    rw [List.getElem?_map] at hk
    cases hq : ks[i]? with
    | none => rw [hq] at hk; cases hk
    | some q =>
      rw [hq] at hk
      simp only [Option.map_some, Option.some.injEq] at hk
      subst hk
      obtain ⟨a, x1, x2⟩ := g3 i q hq
      exact ⟨a, x1, xB_sw x2⟩
end
/-- V where a town has been read -/
def VS1 : List XP := (VGc.set 5 (pI 0 0)).set 6 (pR 33)
def VS2 : List XP := (VGc.set 5 (pI 0 0)).set 6 (pR 16)
def vcor (b : Bool) (j : Nat) : Bool := match (Ec b).2.2.2[j]?, (Ec (!b)).2.2.2[j]?, VS2[j]? with
  | some q, some (o, k), some P => (decide (j ≠ 6) && decide (q = (o, k)) && decide (VS1[j]? = VS2[j]?) && decide (o ≠ 0)) || (decide (j = 6) && decide (q = (o, k)) && decide (o ≠ 0)) || (decide (o ≠ 0) && (match (Ec b).2.1[o]? with | some κ => (match (Ec b).1[κ]? with | some x => (match x with | .inl (_, ts) => (match ts[k]? with | some T => (match T with | .inl (.inl (u, w)) => inb P u w | _ => false) | none => false) | _ => false) | none => false) | none => false))
  | _, _, _ => false
theorem vcor_all (b : Bool) : (List.range 28).all (vcor b) = true := by cases b <;> decide +kernel
theorem VS2_len : VS2.length = 28 := by decide +kernel
theorem IC_swap {b : Bool} {t : Nat → ClassId} {lo : Nat} {f : Nat → va_E} {fs : List Value} {x y : Value} (hT : TYP (Ec b) (xtc t lo) t lo f) (hV : VR (Ec b) (xtc t lo) lo VS1 f) (hf : f lo = .inr (10, fs)) (hx : fs[5]? = some x) (hy : fs[6]? = some y) : TYP (Ec (!b)) (xtc t lo) t lo (va_up f lo (.inr (10, (fs.set 5 y).set 6 x))) ∧ VR (Ec (!b)) (xtc t lo) lo VS2 (va_up f lo (.inr (10, (fs.set 5 y).set 6 x))) := by
  have hI : ∀ (j' o k : Nat) (a c : Int), (Ec b).2.2.2[j']? = some (o, k) → VGc[j']? = some (pI a c) → ∃ x : Int32, cellv (f (lo + o)) k = some (.int x) ∧ a ≤ x.toInt ∧ x.toInt ≤ c := by
    intro j' o k a c h1 h2
    by_cases c5 : j' = 5
    · subst c5
      obtain ⟨x, q1, -, q3, q4⟩ := VR_int hV h1 (show VS1[5]? = some (pI 0 0) by decide +kernel)
      cases (show some (pI 0 3) = some (pI a c) from h2)
      exact ⟨x, q1, by omega, by omega⟩
    · by_cases c6 : j' = 6
      · subst c6
        cases (show some (pR 1000) = some (pI a c) from h2)
      · obtain ⟨x, q1, -, q3, q4⟩ := VR_int hV h1 (show VS1[j']? = some (pI a c) by
          unfold VS1
          rw [List.getElem?_set_ne (Ne.symm c6), List.getElem?_set_ne (Ne.symm c5)]
          exact h2)
        exact ⟨x, q1, q3, q4⟩
  have hT2 : TYP (Ec (!b)) (xtc t lo) t lo (va_up f lo (.inr (10, (fs.set 5 y).set 6 x))) := by
    intro i k' hi
    have hlt : i < 304 := by rw [← Ec_len (!b)]; exact (List.getElem?_eq_some_iff.mp hi).1
    by_cases c : i = 0
    · subst c
      have ek : k' = 0 := by
        rw [kdc0] at hi
        exact (Option.some.inj hi).symm
      subst ek
      obtain ⟨fs', e1, e2, e3⟩ := typ_at hT (i := 0) (k := 0) (kdc0 b) (rfl : (Ec b).1[0]? = some _)
      rw [show lo + 0 = lo from rfl, hf] at e1
      cases e1
      have e2 : fs.length = 8 := e2
      refine ⟨_, (rfl : (Ec (!b)).1[0]? = some _), ?_⟩
      show cok _ t _ (va_up f lo _ lo)
      rw [va_up_self]
      refine ⟨_, rfl, by rw [List.length_set, List.length_set]; exact e2, fun k T hk => ?_⟩
      by_cases c5 : k = 5
      · subst c5
        obtain ⟨v, v1, a, rfl, v2⟩ := e3 6 (tR 32) rfl
        rw [hy] at v1
        cases v1
        cases (show some (tR 15) = some T from hk)
        exact ⟨_, by rw [List.getElem?_set_ne (by decide), List.getElem?_set_self (by omega)], a, rfl, xB_sw v2⟩
      · by_cases c6 : k = 6
        · subst c6
          obtain ⟨v, v1, a, rfl, v2⟩ := e3 5 (tR 15) rfl
          rw [hx] at v1
          cases v1
          cases (show some (tR 32) = some T from hk)
          exact ⟨_, by rw [List.getElem?_set_self (by rw [List.length_set]; omega)], a, rfl, xB_sw v2⟩
        · rw [List.getElem?_set_ne (Ne.symm c6), List.getElem?_set_ne (Ne.symm c5)]
          obtain ⟨v, v1, v2⟩ := e3 k T hk
          refine ⟨v, v1, ?_⟩
          have hk8 : k < 8 := by rw [← e2]; exact (List.getElem?_eq_some_iff.mp v1).1
          have : k = 0 ∨ k = 1 ∨ k = 2 ∨ k = 3 ∨ k = 4 ∨ k = 7 := by omega
          rcases this with rfl | rfl | rfl | rfl | rfl | rfl
          all_goals
            cases hk
            obtain ⟨a, e, hB⟩ := v2
            exact ⟨a, e, xB_sw hB⟩
    · rw [va_up_ne _ _ (by omega)]
      have hc := List.all_eq_true.mp (ccor_all b) (i - 1) (List.mem_range.mpr (by omega))
      rw [show i - 1 + 1 = i by omega] at hc
      unfold ccor at hc
      rw [hi] at hc
      cases hk : (Ec b).2.1[i]? with
      | none => rw [hk] at hc; cases hc
      | some k =>
        rw [hk] at hc
        simp only at hc
        cases h1 : (Ec b).1[k]? with
        | none => rw [h1] at hc; cases hc
        | some κ =>
          cases h2 : (Ec b).1[k']? with
          | none => rw [h1, h2] at hc; cases hc
          | some κ' =>
            rw [h1, h2] at hc
            exact ⟨κ', h2, kcor_ok hI hc (typ_at hT hk h1)⟩
  refine ⟨hT2, fun j o k P hj hP => ?_⟩
  have hlt : j < 28 := by rw [← VS2_len]; exact (List.getElem?_eq_some_iff.mp hP).1
  have hc := List.all_eq_true.mp (vcor_all b) j (List.mem_range.mpr hlt)
  unfold vcor at hc
  rw [hj, hP] at hc
  cases hq : (Ec b).2.2.2[j]? with
  | none => rw [hq] at hc; cases hc
  | some q =>
    rw [hq] at hc
    simp only [Bool.or_eq_true, Bool.and_eq_true, decide_eq_true_eq] at hc
    rcases hc with (⟨⟨⟨c1, c2⟩, c3⟩, c4⟩ | ⟨⟨c1, c2⟩, c4⟩) | ⟨c4, c5⟩
    · subst c2
      rw [va_up_ne _ _ (by omega)]
      obtain ⟨v, v1, v2⟩ := hV j o k P hq c3
      refine ⟨v, v1, ?_⟩
      match P, v2 with
      | .inl (.inl p), v2 => exact v2
      | .inl (.inr p), v2 => exact v2
      | .inr (.inl κ), v2 =>
        exfalso
        have : ((List.range 28).all fun j => decide (j = 6) || (match VS1[j]? with | some P => (match P with | .inl (.inl _) => true | _ => false) | none => false)) = true := by decide +kernel
        have := List.all_eq_true.mp this j (List.mem_range.mpr hlt)
        rw [c3] at this
        simp [c1] at this
    · subst c1
      subst c2
      rw [va_up_ne _ _ (by omega)]
      obtain ⟨v, v1, ⟨a, rfl, hB⟩, v3⟩ := hV 6 o k (pR 33) hq (by decide +kernel)
      cases (show some (pR 16) = some P from hP)
      exact ⟨_, v1, ⟨a, rfl, xB_sw (k := 33) hB⟩, rfl⟩
    · rw [va_up_ne _ _ (by omega)]
      cases hk : (Ec b).2.1[o]? with
      | none => rw [hk] at c5; cases c5
      | some κ =>
        rw [hk] at c5
        simp only at c5
        cases hK : (Ec b).1[κ]? with
        | none => rw [hK] at c5; cases c5
        | some z =>
          rw [hK] at c5
          simp only at c5
          match z, hK, c5 with
          | .inl (ci, ts), hK, c5 =>
            simp only at c5
            cases hk2 : ts[k]? with
            | none => rw [hk2] at c5; cases c5
            | some T =>
              rw [hk2] at c5
              simp only at c5
              match T, hk2, c5 with
              | .inl (.inl (u, w)), hk2, c5 =>
                obtain ⟨fs2, e1, e2, e3⟩ := typ_at hT hk hK
                obtain ⟨v, v1, n, rfl, v2, v3⟩ := e3 k _ hk2
                obtain ⟨p1, p2, q1, q2, q3⟩ := inb_ok c5
                subst q1
                exact ⟨_, by rw [e1]; exact v1, n, rfl, rfl, by show p1 ≤ n.toInt; omega, by show n.toInt ≤ p2; omega⟩
