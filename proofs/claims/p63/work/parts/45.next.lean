/-! next: its contract -/
theorem nxt_same {fs : List Value} {a k s v : Int32} {w : Int64} (h7 : fs[7]? = some (.int a)) (h8 : fs[8]? = some (.int k)) (h9 : fs[9]? = some (.int s)) (h10 : fs[10]? = some (.int v)) (h11 : fs[11]? = some (.long w)) : nxt fs a k s v w = fs := by
  have g : ∀ (ls : List Value) (i : Nat) (x : Value), ls[i]? = some x → ls.set i x = ls := by
    intro ls i x h
    apply List.ext_getElem?
    intro j
    rw [List.getElem?_set]
    by_cases hi : i = j
    · subst hi
      rw [if_pos rfl, if_pos (List.getElem?_eq_some_iff.mp h).1, h]
    · rw [if_neg hi]
  unfold nxt
  rw [g fs 7 _ h7, g fs 8 _ h8, g fs 9 _ h9, g fs 10 _ h10, g fs 11 _ h11]
theorem trm_next : ∀ j : Fin 33, (trm[(j : Nat)]?.getD (0, 0)).1 = 0 → (j : Nat) ≠ 1 → (j : Nat) ≠ 2 → (j : Nat) ≠ 3 → ((trm[(j : Nat)]?.getD (0, 0)).2 < 7 ∨ 12 ≤ (trm[(j : Nat)]?.getD (0, 0)).2) := by decide +kernel
theorem nx_trv {lo : Nat} {f : Nat → va_E} {fs : List Value} {vv : List Value} {K : Nat} {tk s v : Int32} {w : Int64} (hf : f lo = .inr (11, fs)) (hl : fs.length = 49) (hvl : vv.length = 33) (a1 : TRV Em lo f vv) : TRV Em lo (nxF lo f fs K tk s v w) (((vv.set 1 (.int (nI K))).set 2 (.int tk)).set 3 (.int v)) := by
  intro j o k x hj hx
  have hlt : j < 33 := (List.getElem?_eq_some_iff.mp hj).1
  have hj' : trm[j]? = some (o, k) := hj
  have hd := trm_next ⟨j, hlt⟩
  simp only [hj', Option.getD_some] at hd
  have e := nxt_at (a := nI K) (k := tk) (s := s) (v := v) (w := w) hl
  by_cases c1 : j = 1
  · subst c1
    cases (show (0, 7) = (o, k) from Option.some.inj hj)
    rw [List.getElem?_set_ne (by decide), List.getElem?_set_ne (by decide), List.getElem?_set_self (by omega)] at hx
    cases hx
    show cellv (va_up f lo _ lo) 7 = _
    rw [va_up_self]
    exact e.1
  · by_cases c2 : j = 2
    · subst c2
      cases (show (0, 8) = (o, k) from Option.some.inj hj)
      rw [List.getElem?_set_ne (by decide), List.getElem?_set_self (by rw [List.length_set]; omega)] at hx
      cases hx
      show cellv (va_up f lo _ lo) 8 = _
      rw [va_up_self]
      exact e.2.1
    · by_cases c3 : j = 3
      · subst c3
        cases (show (0, 10) = (o, k) from Option.some.inj hj)
        rw [List.getElem?_set_self (by rw [List.length_set, List.length_set]; omega)] at hx
        cases hx
        show cellv (va_up f lo _ lo) 10 = _
        rw [va_up_self]
        exact e.2.2.2.1
      · rw [List.getElem?_set_ne (Ne.symm c3), List.getElem?_set_ne (Ne.symm c2), List.getElem?_set_ne (Ne.symm c1)] at hx
        have old := a1 j o k x hj hx
        by_cases c0 : o = 0
        · subst c0
          show cellv (va_up f lo _ lo) k = _
          rw [va_up_self]
          rw [show lo + 0 = lo from rfl, hf] at old
          exact (nxt_off (hd rfl c1 c2 c3)).trans old
        · unfold nxF
          rw [va_up_ne _ _ (by omega)]
          exact old
theorem nx_typ {xt : XX} {t : Nat → ClassId} {lo : Nat} {f : Nat → va_E} {fs : List Value} {K S : Nat} {tk v : Int32} {w : Int64} (hT : TYP Em xt t lo f) (hf : f lo = .inr (11, fs)) (hl : fs.length = 49) (hS : S ≤ 1400) : TYP Em xt t lo (nxF lo f fs K tk (nI S) v w) := by
  obtain ⟨fs', e1, e2, e3⟩ := typ_at hT (i := 0) (k := 0) rfl (rfl : Em.1[0]? = some _)
  rw [show lo + 0 = lo from rfl, hf] at e1
  cases e1
  have e := nxt_at (a := nI K) (k := tk) (s := nI S) (v := v) (w := w) hl
  refine TYP_up (i := 0) hT rfl (rfl : Em.1[0]? = some _) ⟨_, rfl, by rw [nxt_len]; exact e2, fun k T' hk => ?_⟩
  by_cases c : k < 7 ∨ 12 ≤ k
  · rw [nxt_off c]; exact e3 k T' hk
  · have : k = 7 ∨ k = 8 ∨ k = 9 ∨ k = 10 ∨ k = 11 := by omega
    rcases this with rfl | rfl | rfl | rfl | rfl
    · cases hk; exact ⟨_, e.1, trivial⟩
    · cases hk; exact ⟨_, e.2.1, trivial⟩
    · cases hk; exact ⟨_, e.2.2.1, nI S, rfl, by rw [nI_toInt (by omega)]; omega, by rw [nI_toInt (by omega)]; omega⟩
    · cases hk; exact ⟨_, e.2.2.2.1, trivial⟩
    · cases hk; exact ⟨_, e.2.2.2.2, w, rfl, Int64.le_toInt w, Int64.toInt_le w⟩
