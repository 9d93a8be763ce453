/-! lays: what holds at its loop -/
def LINV (t : Nat → ClassId) (lo : Nat) (f1 : Nat → va_E) (k : Nat) (f : Nat → va_E) : Prop := VB El lo VLg f ∧ TYP El (xte El f1 t) t lo f ∧ gsame El lo f1 f ∧ (∀ (j o k' : Nat), j < 33 → j ≠ 5 → j ≠ 6 → j ≠ 7 → El.2.2.2[j]? = some (o, k') → cv f (lo + o) k' = cv f1 (lo + o) k') ∧ cv f (lo + 0) 24 = cv f1 (lo + 7) 6 + casts f1 lo 0 k ∧ cv f (lo + 0) 27 ≤ k ∧ ∀ b : Nat, (b : Int) < cv f (lo + 0) 24 → 1 ≤ cv f (lo + 14) (6 * b) ∧ cv f (lo + 14) (6 * b) ≤ 10000
theorem trl_off : ∀ j : Fin 44, El.2.2.2[(j : Nat)]? ≠ some (0, 26) ∧ El.2.2.2[(j : Nat)]? ≠ some (0, 34) ∧ El.2.2.2[(j : Nat)]? ≠ some (0, 35) := by decide +kernel
theorem trl_is : ∀ b : Fin 10, El.2.2.2[34 + (b : Nat)]? = some (14, 6 * (b : Nat)) := by decide +kernel
theorem VLg_is0 : ((List.range 10).all fun n => decide (VLg[34 + n]? = some (pI (-1) 10000))) = true := by decide +kernel
theorem VLg_is {n : Nat} (h : n < 10) : VLg[34 + n]? = some (pI (-1) 10000) := of_decide_eq_true (List.all_eq_true.mp VLg_is0 n (List.mem_range.mpr h))
theorem trl_len : El.2.2.2.length = 44 := by decide +kernel
theorem LINV_put {t : Nat → ClassId} {lo k : Nat} {f1 f : Nat → va_E} (h : LINV t lo f1 k f) {fs : List Value} (hf : f lo = .inr (11, fs)) {x : Nat} {v : Int32} (hx : (x = 26 ∧ 0 ≤ v.toInt ∧ v.toInt ≤ 1023) ∨ ((x = 34 ∨ x = 35) ∧ -1 ≤ v.toInt ∧ v.toInt ≤ 60)) : LINV t lo f1 k (va_up f lo (.inr (11, fs.set x (.int v)))) := by
  obtain ⟨h1, h2, h3, h4, h5, h6, h7⟩ := h
  have e0 : ∀ o k' : Nat, ¬ (o = 0 ∧ k' = x) → cellv (va_up f lo (.inr (11, fs.set x (.int v))) (lo + o)) k' = cellv (f (lo + o)) k' := by
    intro o k' hne
    by_cases c : o = 0
    · subst c
      show cellv (va_up f lo _ lo) k' = cellv (f lo) k'
      rw [va_up_self, hf]
      show (fs.set x (.int v))[k']? = fs[k']?
      rw [List.getElem?_set_ne (fun e => hne ⟨rfl, e.symm⟩)]
    · rw [va_up_ne _ _ (by omega)]
  have ec : ∀ o k' : Nat, ¬ (o = 0 ∧ k' = x) → cv (va_up f lo (.inr (11, fs.set x (.int v)))) (lo + o) k' = cv f (lo + o) k' := by
    intro o k' hne
    unfold cv
    rw [e0 o k' hne]
  have hoff : ∀ j o k' : Nat, El.2.2.2[j]? = some (o, k') → ¬ (o = 0 ∧ k' = x) := by
    intro j o k' hj hc
    obtain ⟨rfl, rfl⟩ := hc
    have hlt : j < 44 := by rw [← trl_len]; exact (List.getElem?_eq_some_iff.mp hj).1
    obtain ⟨q1, q2, q3⟩ := trl_off ⟨j, hlt⟩
    rcases hx with ⟨rfl, -⟩ | ⟨rfl | rfl, -⟩
    · exact q1 hj
    · exact q2 hj
    · exact q3 hj
  refine ⟨fun j o k' P hj hP => ?_, ?_, ⟨fun i κ k' ps a b c => ?_, fun i κ a b => ?_⟩, fun j o k' a b c d e => ?_, ?_, ?_, fun b hb => ?_⟩
  · rw [e0 o k' (hoff j o k' hj)]
    exact h1 j o k' P hj hP
  · obtain ⟨fs', e1, e2, e3⟩ := typ_at h2 (i := 0) (k := 0) rfl (rfl : El.1[0]? = some _)
    rw [show lo + 0 = lo from rfl, hf] at e1
    cases e1
    refine TYP_up (i := 0) h2 rfl (rfl : El.1[0]? = some _) ⟨_, rfl, by rw [List.length_set]; exact e2, fun q T hq => ?_⟩
    by_cases c : q = x
    · subst c
      have hlt : q < fs.length := by
        have e2 : fs.length = 49 := e2
        omega
      refine ⟨.int v, by rw [List.getElem?_set_self hlt], ?_⟩
      rcases hx with ⟨rfl, p1, p2⟩ | ⟨rfl | rfl, p1, p2⟩
      · cases hq
        exact ⟨v, rfl, p1, p2⟩
      · cases hq
        exact ⟨v, rfl, p1, p2⟩
      · cases hq
        exact ⟨v, rfl, p1, p2⟩
    · rw [List.getElem?_set_ne (Ne.symm c)]
      exact e3 q T hq
  · have ei := kdm_eq (show Em.2.1[i]? = some κ from a)
    subst ei
    by_cases c0 : i = 0
    · subst c0
      cases (show some [] = some ps from b)
      obtain ⟨q, hq, _⟩ := c
      cases hq
    · rw [va_up_ne _ _ (by omega)]
      exact h3.1 i i k' ps a b c
  · have ei := kdm_eq (show Em.2.1[i]? = some κ from a)
    subst ei
    by_cases c0 : i = 0
    · subst c0
      cases (show some [] = none from b)
    · rw [va_up_ne _ _ (by omega)]
      exact h3.2 i i a b
  · rw [ec o k' (hoff j o k' e)]
    exact h4 j o k' a b c d e
  · rw [ec 0 24 (by omega)]
    exact h5
  · rw [ec 0 27 (by omega)]
    exact h6
  · rw [ec 0 24 (by omega)] at hb
    rw [ec 14 _ (by omega)]
    exact h7 b hb
theorem trl_5 : El.2.2.2[5]? = some (0, 24) := rfl
theorem trl_6 : El.2.2.2[6]? = some (0, 27) := rfl
theorem trl_7 : El.2.2.2[7]? = some (0, 29) := rfl
/-- behind melts or goes -/
theorem LINV_keep {t : Nat → ClassId} {lo k : Nat} {f1 f f2 : Nat → va_E} {zs : List Int} {o : XO} {ov : Option Value} {ex : List Nat} (h : LINV t lo f1 k f) (hO : OOK El (xte El f1 t) lo (zs ++ cvs El lo f) o ov f2) (hk : keepx zs.length o.2.2.1 ex = true) (hl : o.2.2.1.length = 44) (hex : ∀ j, j ∈ ex → j = 6 ∨ j = 7) (hT : TYP El (xte El f1 t) t lo f2) (hg : gsame El lo f1 f2) (h6 : ∃ i : Int32, cellv (f2 (lo + 0)) 27 = some (.int i) ∧ 0 ≤ i.toInt ∧ i.toInt ≤ 40 ∧ i.toInt ≤ k + 1) (h7 : ∃ i : Int32, cellv (f2 (lo + 0)) 29 = some (.int i) ∧ 0 ≤ i.toInt ∧ i.toInt ≤ 9) (hc : cv f1 (lo + 12) (5 * k) ≠ 1) : LINV t lo f1 (k + 1) f2 := by
  obtain ⟨g1, g2, g3, g4, g5, g6, g7⟩ := h
  obtain ⟨i6, c6, d6, e6, m6⟩ := h6
  obtain ⟨i7, c7, d7, e7⟩ := h7
  have ne5 : (5 : Nat) ∉ ex := fun q => by rcases hex 5 q with q | q <;> omega
  have k24 : cv f2 (lo + 0) 24 = cv f (lo + 0) 24 := by
    obtain ⟨i, a1, a2, a3⟩ := kept_at hO hk trl_5 (by omega) ne5
    omega
  refine ⟨VB_out g1 hO hk (by rw [trl_len]; omega) (fun j a k' P hj ha hP => ?_), hT, hg, fun j a k' q1 q2 q3 q4 ha => ?_, ?_, ?_, fun b hb => ?_⟩
  · rcases hex j hj with rfl | rfl
    · cases (show (0, 27) = (a, k') from Option.some.inj ha)
      exact ⟨i6, 0, 40, c6, (Option.some.inj hP).symm, d6, e6⟩
    · cases (show (0, 29) = (a, k') from Option.some.inj ha)
      exact ⟨i7, 0, 9, c7, (Option.some.inj hP).symm, d7, e7⟩
  · obtain ⟨i, a1, a2, a3⟩ := kept_at hO hk ha (by omega) (fun q => by rcases hex j q with q | q <;> omega)
    rw [a2, a3]
    exact g4 j a k' q1 q2 q3 q4 ha
  · rw [k24, g5]
    simp only [casts, Nat.mul_zero, Nat.zero_add]
    rw [if_neg hc]
    omega
  · rw [cv_of c6]
    exact m6
  · rw [k24] at hb
    have hb10 : b < 10 := by
      obtain ⟨i, a1, a2, a3, a4⟩ := VB_at g1 trl_5 (show VLg[5]? = some (pI 0 10) from rfl)
      omega
    obtain ⟨i, a1, a2, a3⟩ := kept_at hO hk (trl_is ⟨b, hb10⟩) (by simp only; omega) (fun q => by rcases hex _ q with q | q <;> simp only at q <;> omega)
    simp only at a2 a3
    rw [a2, a3]
    exact g7 b hb
/-- behind founds -/
theorem LINV_found {t : Nat → ClassId} {lo k : Nat} {f1 f f2 : Nat → va_E} {r0 a1 a2 a3 a4 : Int} {o : XO} {ov : Option Value} (h : LINV t lo f1 k f) (hO : OOK El (xte El f1 t) lo ([r0, a1, a2, a3, a4] ++ cvs El lo f) o ov f2) (ho : o ∈ Ml1.2.2.1) (ha : 1 ≤ a1 ∧ a1 ≤ 10000) (hT : TYP El (xte El f1 t) t lo f2) (hg : gsame El lo f1 f2) (hk : k < 40) (hc : cv f1 (lo + 12) (5 * k) = 1) : ov = none ∧ LINV t lo f1 (k + 1) f2 := by
  obtain ⟨g1, g2, g3, g4, g5, g6, g7⟩ := h
  have hb := List.all_eq_true.mp fnd_all o ho
  unfold fndB at hb
  obtain ⟨n, hn, hb⟩ := List.any_eq_true.mp hb
  rw [List.mem_range] at hn
  simp only [Bool.and_eq_true, decide_eq_true_eq] at hb
  obtain ⟨⟨⟨⟨⟨b1, b2⟩, b3⟩, b4⟩, b5⟩, b6⟩ := hb
  refine ⟨OOK_none hO b6, ?_⟩
  have en : cv f (lo + 0) 24 = n := by
    have := hO.1 10 n n _ b1 (cvs_at (zs := [r0, a1, a2, a3, a4]) trl_5)
    omega
  obtain ⟨i5, x1, x2, x3, x4⟩ := out_box hO trl_5 b2
  obtain ⟨iN, y1, y2, y3⟩ := out_num hO (trl_is ⟨n, hn⟩) b3 (z := a1) rfl
  simp only at y1 y2
  have ex : ∀ j : Nat, j ≠ 5 → j ≠ 34 + n → j ∉ [5, 34 + n] := fun j p q r => by
    simp only [List.mem_cons, List.not_mem_nil, or_false] at r
    omega
  refine ⟨VB_out g1 hO b4 (by rw [trl_len]; omega) (fun j a k' P hj ha' hP => ?_), hT, hg, fun j a k' q1 q2 q3 q4 ha' => ?_, ?_, ?_, fun b hb => ?_⟩
  · simp only [List.mem_cons, List.not_mem_nil, or_false] at hj
    rcases hj with rfl | rfl
    · cases (show (0, 24) = (a, k') from Option.some.inj ha')
      exact ⟨i5, 0, 10, x1, (Option.some.inj hP).symm, by omega, by omega⟩
    · rw [trl_is ⟨n, hn⟩] at ha'
      cases ha'
      have hP' : P = pI (-1) 10000 := by
        rw [VLg_is hn] at hP
        exact (Option.some.inj hP).symm
      exact ⟨iN, -1, 10000, y1, hP', by omega, by omega⟩
  · obtain ⟨i, z1, z2, z3⟩ := kept_at hO b4 ha' (by omega) (ex j q2 (by omega))
    rw [z2, z3]
    exact g4 j a k' q1 q2 q3 q4 ha'
  · rw [x2]
    simp only [casts, Nat.mul_zero, Nat.zero_add]
    rw [if_pos hc]
    omega
  · obtain ⟨i, z1, z2, z3⟩ := kept_at hO b4 trl_6 (by omega) (ex 6 (by omega) (by omega))
    rw [z2, z3]
    omega
  · rw [x2] at hb
    by_cases c : b = n
    · subst c
      rw [y2]
      omega
    · have hb10 : b < 10 := by omega
      obtain ⟨i, z1, z2, z3⟩ := kept_at hO b4 (trl_is ⟨b, hb10⟩) (by simp only; omega) (ex _ (by simp only; omega) (by simp only; omega))
      simp only at z2 z3
      rw [z2, z3]
      exact g7 b (by omega)
/-- behind begin -/
theorem LINV_beg {t : Nat → ClassId} {lo : Nat} {f1 f2 : Nat → va_E} {r0 : Int} {o : XO} {ov : Option Value} (hV : VB El lo Ml24.2.1 f1) (hO : OOK El (xte El f1 t) lo ([r0] ++ cvs El lo f1) o ov f2) (ho : o ∈ Ml24.2.2.1) (hT : TYP El (xte El f1 t) t lo f2) (hg : gsame El lo f1 f2) : ov = none ∧ LINV t lo f1 0 f2 := by
  have hb := List.all_eq_true.mp bg_all o ho
  unfold bgB at hb
  obtain ⟨n, hn, hb⟩ := List.any_eq_true.mp hb
  rw [List.mem_range] at hn
  simp only [Bool.and_eq_true, decide_eq_true_eq] at hb
  obtain ⟨⟨⟨⟨⟨⟨⟨⟨b1, b2⟩, b3⟩, b4⟩, b5⟩, b6⟩, b7⟩, b8⟩, b9⟩ := hb
  refine ⟨OOK_none hO b9, ?_⟩
  have en : cv f1 (lo + 7) 6 = n := by
    have := hO.1 34 n n _ b1 (cvs_at (zs := [r0]) (show El.2.2.2[33]? = some (7, 6) from rfl))
    omega
  obtain ⟨i5, x1, x2, x3, x4⟩ := out_box hO trl_5 b2
  obtain ⟨i6, u1, u2, u3, u4⟩ := out_box hO trl_6 b3
  obtain ⟨i7, v1, v2, v3, v4⟩ := out_box hO trl_7 b4
  obtain ⟨i33, w1, w2, w3, w4⟩ := out_box hO (show El.2.2.2[33]? = some (7, 6) from rfl) b5
  have is_ : ∀ b : Nat, b < n → ∃ i : Int32, cellv (f2 (lo + 14)) (6 * b) = some (.int i) ∧ cv f2 (lo + 14) (6 * b) = i.toInt ∧ 1 ≤ i.toInt ∧ i.toInt ≤ 10000 := by
    intro b hb
    have := List.all_eq_true.mp b6 b (List.mem_range.mpr hb)
    exact out_box hO (trl_is ⟨b, by omega⟩) (of_decide_eq_true this)
  have hx : ∀ j : Nat, j ∈ [5, 6, 7, 33] ++ (List.range n).map (fun b => 34 + b) → j = 5 ∨ j = 6 ∨ j = 7 ∨ j = 33 ∨ ∃ b, b < n ∧ j = 34 + b := by
    intro j hj
    simp only [List.cons_append, List.nil_append, List.mem_cons, List.mem_map, List.mem_range] at hj
    rcases hj with h | h | h | h | ⟨b, h1, h2⟩
    · exact Or.inl h
    · exact Or.inr (Or.inl h)
    · exact Or.inr (Or.inr (Or.inl h))
    · exact Or.inr (Or.inr (Or.inr (Or.inl h)))
    · exact Or.inr (Or.inr (Or.inr (Or.inr ⟨b, h1, h2.symm⟩)))
  have hV' : VB El lo VLg f1 ∨ True := Or.inr trivial
  refine ⟨fun j a k' P hj hP => ?_, hT, hg, fun j a k' q1 q2 q3 q4 ha' => ?_, ?_, ?_, fun b hb => ?_⟩
  · have hjl : j < 44 := by rw [← trl_len]; exact (List.getElem?_eq_some_iff.mp hj).1
    by_cases c6 : j = 6
    · subst c6
      cases (show (0, 27) = (a, k') from Option.some.inj hj)
      exact ⟨i6, 0, 40, u1, (Option.some.inj hP).symm, by omega, by omega⟩
    · have hP' : Ml24.2.1[j]? = some P := by
        unfold VLg at hP
        rw [List.getElem?_set_ne (Ne.symm c6)] at hP
        exact hP
      by_cases c : j ∈ [5, 6, 7, 33] ++ (List.range n).map (fun b => 34 + b)
      · rcases hx j c with rfl | rfl | rfl | rfl | ⟨b, hb, rfl⟩
        · cases (show (0, 24) = (a, k') from Option.some.inj hj)
          exact ⟨i5, 0, 10, x1, (Option.some.inj hP).symm, by omega, by omega⟩
        · exact absurd rfl c6
        · cases (show (0, 29) = (a, k') from Option.some.inj hj)
          exact ⟨i7, 0, 9, v1, (Option.some.inj hP).symm, v3, v4⟩
        · cases (show (7, 6) = (a, k') from Option.some.inj hj)
          exact ⟨i33, 0, 8, w1, (Option.some.inj hP).symm, by omega, by omega⟩
        · obtain ⟨i, z1, z2, z3, z4⟩ := is_ b hb
          rw [trl_is ⟨b, by omega⟩] at hj
          cases hj
          rw [VLg_is (by omega)] at hP
          exact ⟨i, -1, 10000, z1, (Option.some.inj hP).symm, by omega, by omega⟩
      · obtain ⟨i, z1, z2, z3⟩ := kept_at hO b7 hj (by omega) c
        obtain ⟨i', x', y', c1, c2, c3, c4⟩ := hV j a k' P hj hP'
        have := cv_of c1
        simp only [gv] at this
        exact ⟨i, x', y', z1, c2, by omega, by omega⟩
  · obtain ⟨i, z1, z2, z3⟩ := kept_at hO b7 ha' (by omega) (fun q => by
      rcases hx j q with h | h | h | h | ⟨b, hb, h⟩ <;> omega)
    rw [z2, z3]
  · rw [x2, en]
    simp only [casts]
    omega
  · rw [u2]
    omega
  · rw [x2] at hb
    obtain ⟨i, z1, z2, z3, z4⟩ := is_ b (by omega)
    rw [z2]
    exact ⟨z3, z4⟩
