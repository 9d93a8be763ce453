/-! acts: its contracts -/
theorem typ_at {E : XE} {xt : XX} {t : Nat → ClassId} {lo : Nat} {f : Nat → va_E} (h : TYP E xt t lo f) {i k : Nat} {κ : XK} (hi : E.2.1[i]? = some k) (hk : E.1[k]? = some κ) : cok (xB E lo xt) t κ (f (lo + i)) := by
  obtain ⟨κ', a, b⟩ := h i k hi
  rw [hk] at a
  cases a
  exact b
theorem cok_arr {B : Nat → Nat → Prop} {t : Nat → ClassId} {tt z : Nat} {lo hi : Int} {tk : List (Nat × Nat)} {bl : List (Int × Int)} {e : va_E} (htt : tt ≠ 1) : cok B t (.inr (tt, z, .inl (lo, hi, tk, bl))) e ↔ ∃ g : Nat → Int32, e = .inl (t tt, z, .inl g) ∧ (∀ i, i < z → lo ≤ (g i).toInt ∧ (g i).toInt ≤ hi) ∧ BL bl g := by
  show (if tt = 1 then ∃ g : Nat → Int64, e = .inl (t 1, z, .inr (.inl g)) ∧ ∀ i, i < z → lo ≤ (g i).toInt ∧ (g i).toInt ≤ hi else ∃ g : Nat → Int32, e = .inl (t tt, z, .inl g) ∧ (∀ i, i < z → lo ≤ (g i).toInt ∧ (g i).toInt ≤ hi) ∧ BL bl g) ↔ _
  rw [if_neg htt]
theorem ROK_set {B : Nat → Nat → Prop} {G0 : List Int} {P : XP} {v : Value} (hP : rok B G0 P v) : ∀ {ps : List XP} {vs : List Value} (j : Nat), ROK B G0 ps vs → ROK B G0 (ps.set j P) (vs.set j v)
  | [], [], j, _ => by simp [ROK]
  | p :: ps, w :: vs, 0, h => ⟨hP, h.2⟩
  | p :: ps, w :: vs, j + 1, h => ⟨h.1, ROK_set hP j h.2⟩
  | [], _ :: _, _, h => h.elim
  | _ :: _, [], _, h => h.elim
theorem OOK_set {E : XE} {xt : XX} {lo : Nat} {M : XM} {vs vv : List Value} {G0 : List Int} {f' : Nat → va_E} {j : Nat} {v : Value} {P : XP} (a : TRV E lo f' (vv.set j v)) (b : AOK (xB E lo xt) (M.1 ++ M.2.1) (vs ++ vv) G0) (c : vs.length = M.1.length) (hV : M.2.1.all isI = true) {o : XO} (h1 : o.1 = (M.1 ++ M.2.1).map bxp) (h2 : o.2.1 = none) (h3 : o.2.2.1 = (eqs M.1.length M.2.1.length).set j P) (hP : rok (xB E lo xt) G0 P v) (h4 : o.2.2.2 = []) : OOK E xt lo G0 o none f' := by
  refine ⟨fun g u w z q1 q2 => box_ent b (by rw [← h1]; exact q1) q2, by rw [h2]; trivial, _, a, ?_, ?_⟩
  · obtain ⟨za, zv, e1, e2, e3⟩ := AOK_split b c
    rw [h3]
    refine ROK_set hP _ ?_
    rw [e1, ← (AOK_len e2).1]
    exact rok_eqs _ _ _ _ e3 hV
  · rw [h4]
    intro q hq
    cases hq
theorem cv_arr {f : Nat → va_E} {a z k : Nat} {c : ClassId} {g : Nat → Int32} (h : f a = .inl (c, z, .inl g)) (hk : k < z) : cv f a k = (g k).toInt := by
  refine cv_of (v := .int (g k)) ?_
  rw [h]
  show (if k < z then some (Value.int (g k)) else none) = _
  rw [if_pos hk]
theorem upd_ne {g : Nat → Int32} {k j : Nat} {x : Int32} (h : j ≠ k) : upd g k x j = g j := by unfold upd; rw [if_neg h]
theorem upd_at {g : Nat → Int32} {k : Nat} {x : Int32} : upd g k x k = x := by unfold upd; rw [if_pos rfl]
theorem upd5_off {g : Nat → Int32} {i j : Nat} {w a b c d : Int32} (h : j < i ∨ i + 5 ≤ j) : upd5 g i w a b c d j = g j := by
  unfold upd5
  rw [upd_ne (by omega), upd_ne (by omega), upd_ne (by omega), upd_ne (by omega), upd_ne (by omega)]
theorem upd5_0 {g : Nat → Int32} {i : Nat} {w a b c d : Int32} : upd5 g i w a b c d i = w := by
  unfold upd5
  rw [upd_ne (by omega), upd_ne (by omega), upd_ne (by omega), upd_ne (by omega), upd_at]
theorem upd5_1 {g : Nat → Int32} {i : Nat} {w a b c d : Int32} : upd5 g i w a b c d (i + 1) = a := by
  unfold upd5
  rw [upd_ne (by omega), upd_ne (by omega), upd_ne (by omega), upd_at]
theorem upd5_b {g : Nat → Int32} {i j : Nat} {w a b c d : Int32} {lo hi : Int} (hg : lo ≤ (g j).toInt ∧ (g j).toInt ≤ hi) (hw : lo ≤ w.toInt ∧ w.toInt ≤ hi) (ha : lo ≤ a.toInt ∧ a.toInt ≤ hi) (hb : lo ≤ b.toInt ∧ b.toInt ≤ hi) (hc : lo ≤ c.toInt ∧ c.toInt ≤ hi) (hd : lo ≤ d.toInt ∧ d.toInt ≤ hi) : lo ≤ (upd5 g i w a b c d j).toInt ∧ (upd5 g i w a b c d j).toInt ≤ hi := by
  unfold upd5 upd
  split
  · exact hd
  · split
    · exact hc
    · split
      · exact hb
      · split
        · exact ha
        · split
          · exact hw
          · exact hg
theorem trm_acts : ∀ j : Fin 33, (trm[(j : Nat)]?.getD (0, 0)).1 ≠ 12 ∧ ((j : Nat) ≠ 14 → trm[(j : Nat)]?.getD (0, 0) ≠ (7, 12)) := by decide +kernel
/-- what is kept, over a new act -/
theorem GI_acts {t : Nat → ClassId} {lo : Nat} {f : Nat → va_E} {gh ga : Nat → Int32} {N : Nat} {w a b c d : Int32} (h7 : f (lo + 7) = .inl (t 0, 65, .inl gh)) (h12 : f (lo + 12) = .inl (t 0, 1000, .inl ga)) (hN : gh 12 = nI N) (hN9 : N ≤ 39) (hl : 1 ≤ cv f (lo + 6) 0) (hw : w.toInt = 1 → cv f (lo + 7) 6 + casts f lo 0 N + 1 ≤ 10) (hok : actok w.toInt a.toInt) (h : GI lo f) : GI lo (actsF t lo f gh ga N w a b c d) := by
  have e7 : actsF t lo f gh ga N w a b c d (lo + 7) = .inl (t 0, 65, .inl (upd gh 12 (nI (N + 1)))) := va_up_self ..
  have e12 : actsF t lo f gh ga N w a b c d (lo + 12) = .inl (t 0, 1000, .inl (upd5 ga (5 * N) w a b c d)) := by
    unfold actsF
    rw [va_up_ne _ _ (by omega), va_up_self]
  have eo : ∀ i k, i ≠ 7 → i ≠ 12 → cv (actsF t lo f gh ga N w a b c d) (lo + i) k = cv f (lo + i) k := by
    intro i k q1 q2
    unfold cv actsF
    rw [va_up_ne _ _ (by omega), va_up_ne _ _ (by omega)]
  have c7 : ∀ k, k < 65 → k ≠ 12 → cv (actsF t lo f gh ga N w a b c d) (lo + 7) k = cv f (lo + 7) k := by
    intro k hk q
    rw [cv_arr e7 hk, cv_arr h7 hk, upd_ne q]
  have c712 : cv (actsF t lo f gh ga N w a b c d) (lo + 7) 12 = (N : Int) + 1 := by
    rw [cv_arr e7 (by decide), upd_at, nI_toInt (by omega)]
    omega
  have o712 : cv f (lo + 7) 12 = (N : Int) := by rw [cv_arr h7 (by decide), hN, nI_toInt (by omega)]
  have c12 : ∀ k, k < 1000 → (k < 5 * N ∨ 5 * N + 5 ≤ k) → cv (actsF t lo f gh ga N w a b c d) (lo + 12) k = cv f (lo + 12) k := by
    intro k hk q
    rw [cv_arr e12 hk, cv_arr h12 hk, upd5_off q]
  refine ⟨fun q hq => ?_, fun q hq => ?_⟩
  · by_cases c0 : q = 0
    · subst c0
      obtain ⟨⟨a1, a2⟩, b1, ⟨d1, d2, d3⟩, e1, f1⟩ := h.1 0 (by decide)
      simp only [Nat.mul_zero, Nat.zero_add] at a1 a2 b1 d1 d2 d3 e1 f1
      unfold BK
      simp only [Nat.mul_zero, Nat.zero_add]
      rw [c712, c7 6 (by decide) (by decide), c7 5 (by decide) (by decide), c7 7 (by decide) (by decide), c7 0 (by decide) (by decide), eo 6 0 (by decide) (by decide)]
      rw [o712] at a1 a2 b1 d3 f1
      refine ⟨⟨by omega, by omega⟩, fun k hk => ?_, ⟨d1, d2, ?_⟩, fun k hk => ?_, ?_⟩
      · by_cases ck : k = N
        · subst ck
          rw [cv_arr e12 (by omega), cv_arr e12 (by omega), upd5_0, upd5_1]
          exact hok
        · rw [c12 _ (by omega) (by omega), c12 _ (by omega) (by omega)]
          exact b1 k (by omega)
      · rw [show ((N : Int) + 1).toNat = N + 1 by omega]
        have en : ((N : Int)).toNat = N := by omega
        rw [en] at d3
        have ec : casts (actsF t lo f gh ga N w a b c d) lo 0 (N + 1) = casts f lo 0 N + (if w.toInt = 1 then 1 else 0) := by
          simp only [casts]
          rw [casts_congr (f := f) (fun k hk => c12 _ (by omega) (by omega)), cv_arr e12 (by omega), Nat.mul_zero, Nat.zero_add, upd5_0]
        rw [ec]
        by_cases hc : w.toInt = 1
        · rw [if_pos hc]
          have := hw hc
          omega
        · rw [if_neg hc]
          omega
      · rw [eo 9 _ (by decide) (by decide)]
        exact e1 k hk
      · rcases f1 with f1 | f1
        · omega
        · exact Or.inr f1
    · obtain ⟨⟨a1, a2⟩, b1, ⟨d1, d2, d3⟩, e1, f1⟩ := h.1 q hq
      unfold BK
      rw [c7 (13 * q + 12) (by omega) (by omega), c7 (13 * q + 6) (by omega) (by omega), c7 (13 * q + 5) (by omega) (by omega), c7 (13 * q + 7) (by omega) (by omega), c7 (13 * q) (by omega) (by omega), eo 6 q (by decide) (by decide)]
      refine ⟨⟨a1, a2⟩, fun k hk => ?_, ⟨d1, d2, ?_⟩, fun k hk => ?_, f1⟩
      · rw [c12 _ (by omega) (by omega), c12 _ (by omega) (by omega)]
        exact b1 k hk
      · rw [casts_congr (f := f) (fun k hk => c12 _ (by omega) (by omega))]
        exact d3
      · rw [eo 9 _ (by decide) (by decide)]
        exact e1 k hk
  · rw [eo 14 _ (by decide) (by decide)]
    have e0 := eo 0 24 (by decide) (by decide)
    simp only [Nat.add_zero] at e0
    rw [e0] at hq
    exact h.2 q hq
theorem AOK_get {B : Nat → Nat → Prop} : ∀ {ps : List XP} {vs : List Value} {zs : List Int} {i : Nat} {P : XP}, AOK B ps vs zs → ps[i]? = some P → ∃ v z, vs[i]? = some v ∧ zs[i]? = some z ∧ pok B P v z
  | p :: ps, v :: vs, z :: zs, 0, P, h, hp => by
    simp only [List.getElem?_cons_zero, Option.some.injEq] at hp
    subst hp
    exact ⟨v, z, rfl, rfl, h.1⟩
  | p :: ps, v :: vs, z :: zs, i + 1, P, h, hp => by
    obtain ⟨v', z', q1, q2, q3⟩ := AOK_get h.2 (by simpa using hp)
    exact ⟨v', z', by simpa using q1, by simpa using q2, q3⟩
  | [], _, _, _, _, _, hp => by simp at hp
  | _ :: _, [], _, _, _, h, _ => by simp [AOK] at h
  | _ :: _, _ :: _, [], _, _, h, _ => by simp [AOK] at h
/-- the reference's object -/
theorem typ_obj {xt : XX} {t : Nat → ClassId} {lo : Nat} {f : Nat → va_E} (h : TYP Em xt t lo f) : ∃ fs : List Value, f lo = .inr (11, fs) ∧ fs.length = 49 ∧ fs[17]? = some (.ref (lo + 7)) ∧ fs[22]? = some (.ref (lo + 12)) := by
  obtain ⟨fs, e1, e2, e3⟩ := typ_at h (i := 0) (k := 0) rfl (rfl : Em.1[0]? = some _)
  refine ⟨fs, e1, e2, ?_, ?_⟩
  · obtain ⟨v, q1, a, rfl, q2⟩ := e3 17 (tR 7) rfl
    obtain ⟨i, rfl, q3⟩ := xB_in q2 (rfl : Em.1[7]? = some _)
    cases kdm_eq q3
    exact q1
  · obtain ⟨v, q1, a, rfl, q2⟩ := e3 22 (tR 12) rfl
    obtain ⟨i, rfl, q3⟩ := xB_in q2 (rfl : Em.1[12]? = some _)
    cases kdm_eq q3
    exact q1
theorem g_acts (X : XK3) (l : Launch) (D : va_G) (t : Nat → ClassId) (lo : Nat) {M : XM} {w0 a0 : Int} (hw0 : w0 ≠ 1 ∧ 0 ≤ w0 ∧ w0 ≤ 3) (ha0 : a0 ≤ 9) (hM : M.1 = [pR 0, pI w0 w0, pI 0 a0, pI 0 0, pI 0 0, pI 0 0]) (hV : M.2.1.all isI = true) {u1 u2 : Int} (h11 : M.2.1[11]? = some (pI u1 u2)) (hu : 1 ≤ u1) {n1 n2 : Int} (h14 : M.2.1[14]? = some (pI n1 n2)) (hn : 0 ≤ n1 ∧ n2 ≤ 39) {o : XO} (ho : o ∈ M.2.2.1) (h1 : o.1 = (M.1 ++ M.2.1).map bxp) (h2 : o.2.1 = none) (h3 : o.2.2.1 = (eqs M.1.length M.2.1.length).set 14 (pE 20 1)) (h4 : o.2.2.2 = []) : HOLDS l Em (xtm X t) D t lo Ym79 M := by
  refine HOLDS_of (fun vs G0 f hE hT hX => ?_)
  obtain ⟨vv, a1, a2, a3, a4⟩ := hE
  obtain ⟨za, zv, rfl, b1, b2⟩ := AOK_split a2 a3
  have b1' := b1
  rw [hM] at b1'
  have hv6 : vs.length = 6 := by rw [a3, hM]; rfl
  have hz6 : za.length = 6 := by rw [(AOK_len b1).1, hM]; rfl
  match vs, hv6, za, hz6, b1' with
  | [v0, v1, v2, v3, v4, v5], _, [z0, z1, z2, z3, z4, z5], _, ⟨⟨⟨r, e0, q0⟩, _⟩, ⟨w, e1, f1, g1, k1⟩, ⟨a, e2, f2, g2, k2⟩, ⟨b, e3, f3, g3, k3⟩, ⟨c, e4, f4, g4, k4⟩, ⟨d, e5, f5, g5, k5⟩, _⟩ =>
    subst e0; subst e1; subst e2; subst e3; subst e4; subst e5
    obtain ⟨i, rfl, q3⟩ := xB_in q0 (rfl : Em.1[0]? = some _)
    cases kdm_eq q3
    obtain ⟨fs, o1, o2, o3, o4⟩ := typ_obj hT
    obtain ⟨gh, p1, p2, p3⟩ := (cok_arr (by decide)).mp (typ_at hT (i := 7) (k := 7) rfl (rfl : Em.1[7]? = some _))
    obtain ⟨ga, r1, r2, r3⟩ := (cok_arr (by decide)).mp (typ_at hT (i := 12) (k := 12) rfl (rfl : Em.1[12]? = some _))
    obtain ⟨v, z, s1, s2, ⟨i14, rfl, s3, s4, s5⟩⟩ := AOK_get b2 h14
    have s6 := a1 14 7 12 _ rfl s1
    have s7 : cellv (f (lo + 7)) 12 = some (.int (gh 12)) := by rw [p1]; rfl
    have s8 : gh 12 = i14 := by
      rw [s7] at s6
      cases s6
      rfl
    obtain ⟨N, hN⟩ : ∃ N : Nat, z = (N : Int) := ⟨z.toNat, by omega⟩
    have hNI : gh 12 = nI N := by
      rw [s8]
      exact Int32.toInt_inj.mp (by rw [s3, hN, nI_toInt (by omega)])
    obtain ⟨v', z', y1, y2, ⟨i11, rfl, y3, y4, y5⟩⟩ := AOK_get b2 h11
    have y6 : cv f (lo + 6) 0 = i11.toInt := cv_of (a1 11 6 0 _ rfl y1)
    refine ⟨actsF t lo f gh ga N w a b c d, none, o, c_acts l D t lo _ f o1 o3 o4 p1 r1 hNI (by omega) (by decide) w a b c d, ho, ?_, ?_, ?_⟩
    · refine OOK_set (j := 14) (v := .int (nI (N + 1))) (P := pE 20 1) ?_ a2 a3 hV h1 h2 h3 ?_ h4
      · intro j oo k v hj hv
        have hlt : j < 33 := (List.getElem?_eq_some_iff.mp hj).1
        have hd := trm_acts ⟨j, hlt⟩
        have hj' : trm[j]? = some (oo, k) := hj
        simp only [hj', Option.getD_some] at hd
        by_cases cj : j = 14
        · subst cj
          have : (7, 12) = (oo, k) := Option.some.inj hj
          cases this
          rw [List.getElem?_set_self (List.getElem?_eq_some_iff.mp s1).1] at hv
          cases hv
          show cellv (va_up _ (lo + 7) _ (lo + 7)) 12 = _
          rw [va_up_self]
          show (if 12 < 65 then some (Value.int (upd gh 12 (nI (N + 1)) 12)) else none) = _
          rw [if_pos (by decide), upd_at]
        · rw [List.getElem?_set_ne (Ne.symm cj)] at hv
          have old := a1 j oo k v hj hv
          by_cases c7 : oo = 7
          · subst c7
            have hk : k ≠ 12 := fun e => hd.2 cj (by rw [e])
            rw [p1] at old
            show cellv (va_up _ (lo + 7) _ (lo + 7)) k = _
            rw [va_up_self, ← old]
            show (if k < 65 then some (Value.int (upd gh 12 (nI (N + 1)) k)) else none) = if k < 65 then some (Value.int (gh k)) else none
            rw [upd_ne hk]
          · unfold actsF
            rw [va_up_ne _ _ (by omega), va_up_ne _ _ (by have := hd.1; omega)]
            exact old
      · refine ⟨nI (N + 1), rfl, ?_⟩
        show ((([z0, z1, z2, z3, z4, z5] ++ zv)[20]?).map fun z => z + 1) = _
        rw [show ([z0, z1, z2, z3, z4, z5] ++ zv)[20]? = zv[14]? from rfl, s2, Option.map_some, nI_toInt (by omega), hN]
        rfl
    · unfold actsF
      refine TYP_up (i := 7) (TYP_up (i := 12) hT rfl (rfl : Em.1[12]? = some _) ?_) rfl (rfl : Em.1[7]? = some _) ?_
      · refine (cok_arr (by decide)).mpr ⟨_, rfl, fun i hi => upd5_b (r2 i hi) (by omega) (by omega) (by omega) (by omega) (by omega), fun i b hb => by cases hb⟩
      · refine (cok_arr (by decide)).mpr ⟨_, rfl, fun i hi => ?_, fun i b hb => ?_⟩
        · by_cases ci : i = 12
          · subst ci; rw [upd_at, nI_toInt (by omega)]; omega
          · rw [upd_ne ci]; exact p2 i hi
        · by_cases ci : i = 12
          · subst ci
            cases hb
            rw [upd_at, nI_toInt (by omega)]
            exact ⟨by show (0 : Int) ≤ _; omega, by show _ ≤ (40 : Int); omega⟩
          · rw [upd_ne ci]; exact p3 i b hb
    · obtain ⟨⟨G1, G2⟩, G3⟩ := hX
      refine ⟨fun i k hi hk => ?_, ⟨GI_acts p1 r1 hNI (by omega) (by rw [y6]; omega) (fun e => absurd e (by omega)) ⟨⟨by omega, by omega⟩, fun _ => ⟨by omega, by omega⟩, fun e => absurd e (by omega)⟩ G1, ?_⟩, ?_⟩
      · cases kdm_eq hi
        have n7 : i ≠ 7 := fun e => by subst e; cases hk
        have n12 : i ≠ 12 := fun e => by subst e; cases hk
        unfold actsF
        rw [va_up_ne _ _ (by omega), va_up_ne _ _ (by omega)]
      · unfold cv actsF
        rw [va_up_ne _ _ (by omega), va_up_ne _ _ (by omega)]
        exact G2
      · unfold actsF
        rw [va_up_ne _ _ (by omega), va_up_ne _ _ (by omega), va_up_ne _ _ (by omega), va_up_ne _ _ (by omega), va_up_ne _ _ (by omega), va_up_ne _ _ (by omega)]
        exact G3
theorem g_acts3 (X : XK3) (l : Launch) (D : va_G) (t : Nat → ClassId) (lo : Nat) : HOLDS l Em (xtm X t) D t lo Ym79 Mm133 := g_acts X l D t lo (w0 := 3) (a0 := 9) (by decide) (by decide) rfl rfl rfl (by decide) rfl (by decide) List.mem_cons_self rfl rfl rfl rfl
theorem g_acts2 (X : XK3) (l : Launch) (D : va_G) (t : Nat → ClassId) (lo : Nat) : HOLDS l Em (xtm X t) D t lo Ym79 Mm135 := g_acts X l D t lo (w0 := 2) (a0 := 0) (by decide) (by decide) rfl rfl rfl (by decide) rfl (by decide) List.mem_cons_self rfl rfl rfl rfl
theorem g_acts0 (X : XK3) (l : Launch) (D : va_G) (t : Nat → ClassId) (lo : Nat) : HOLDS l Em (xtm X t) D t lo Ym79 Mm139 := g_acts X l D t lo (w0 := 0) (a0 := 9) (by decide) (by decide) rfl rfl rfl (by decide) rfl (by decide) List.mem_cons_self rfl rfl rfl rfl
