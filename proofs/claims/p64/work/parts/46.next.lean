theorem set_get {ls : List Value} {i : Nat} {x : Value} (h : ls[i]? = some x) : ls.set i x = ls := by
  apply List.ext_getElem?
  intro j
  rw [List.getElem?_set]
  by_cases hi : i = j
  · subst hi
    rw [if_pos rfl, if_pos (List.getElem?_eq_some_iff.mp h).1, h]
  · rw [if_neg hi]
theorem nx_fz {xt : XX} {lo : Nat} {f : Nat → va_E} {fs : List Value} {K : Nat} {tk s v : Int32} {w : Int64} (hw : TWX Em xt lo) (hX : xt.2 lo f) (hf : f lo = .inr (11, fs)) : FZ Em xt lo f (nxF lo f fs K tk s v w) := by
  unfold nxF
  refine FZ_up (i := 0) (κ := 0) hw ⟨fun _ _ _ _ => rfl, hX⟩ rfl (rfl : xwr Em 0 = some _) (fun k hk => ?_)
  obtain ⟨q, hq, q1, q2⟩ := hk
  cases List.mem_singleton.mp hq
  have e : k = 24 := by
    have q1 : 24 ≤ k := q1
    have q2 : k < 25 := q2
    omega
  subst e
  rw [show lo + 0 = lo from rfl, hf]
  exact nxt_off (by decide)
theorem g_next (l : Launch) (xt : XX) (D : va_G) (t : Nat → ClassId) (lo : Nat) (hw : TWX Em xt lo) : HOLDS l Em xt D t lo Ym98 Mm155 := by
  refine HOLDS.start (by decide +kernel) (fun vs G0 f hE hT hX => ?_)
  obtain ⟨vv, a1, a2, a3, a4⟩ := hE
  obtain ⟨za, zv, rfl, b1, b2⟩ := AOK_split a2 a3
  have hv1 : vs.length = 1 := a3
  have hz1 : za.length = 1 := (AOK_len b1).1
  have b1' := b1
  match vs, hv1, za, hz1, b1' with
  | [v0], _, [z0], _, ⟨⟨⟨r, e0, q0⟩, _⟩, _⟩ =>
    subst e0
    obtain ⟨i, rfl, q3⟩ := xB_in q0 (rfl : Em.1[0]? = some _)
    cases kdm_eq q3
    obtain ⟨fs, o1, o2, e3⟩ := typ_at hT (i := 0) (k := 0) rfl (rfl : Em.1[0]? = some _)
    have o1 : f lo = .inr (11, fs) := o1
    have o2 : fs.length = 49 := o2
    obtain ⟨gt, p1, p2, p3⟩ := (cok_arr (by decide)).mp (typ_at hT (i := 5) (k := 5) rfl (rfl : Em.1[5]? = some _))
    have o5 : fs[5]? = some (.ref (lo + 5)) := by
      obtain ⟨v, q1, a, rfl, q2⟩ := e3 5 (tR 5) rfl
      obtain ⟨i, rfl, q3⟩ := xB_in q2 (rfl : Em.1[5]? = some _)
      cases kdm_eq q3
      exact q1
    obtain ⟨_, o9, st, rfl, o9a, o9b⟩ := e3 9 (tI 0 1400) rfl
    obtain ⟨_, o11, wd, rfl, _, _⟩ := e3 11 (tL (-9223372036854775808) 9223372036854775807) rfl
    obtain ⟨_, y0, s0, u0, i0, rfl, w0, x0, m0⟩ := AOK_get b2 (i := 0) rfl
    obtain ⟨_, y1, s1, u1, i1, rfl, w1, x1, m1⟩ := AOK_get b2 (i := 1) rfl
    obtain ⟨_, y2, s2, u2, i2, rfl, w2, x2, m2⟩ := AOK_get b2 (i := 2) rfl
    obtain ⟨_, y3, s3, u3, i3, rfl, w3, x3, m3⟩ := AOK_get b2 (i := 3) rfl
    obtain ⟨_, y4, s4, u4, i4, rfl, w4, x4, m4⟩ := AOK_get b2 (i := 4) rfl
    have cell : ∀ (k : Nat) (v : Value), cellv (f (lo + 0)) k = some v → fs[k]? = some v := by
      intro k v h
      rw [show lo + 0 = lo from rfl, o1] at h
      exact h
    have t6 := cell _ _ (a1 0 0 6 _ rfl s0)
    have t7 := cell _ _ (a1 1 0 7 _ rfl s1)
    have t8 := cell _ _ (a1 2 0 8 _ rfl s2)
    have t10 := cell _ _ (a1 3 0 10 _ rfl s3)
    have hrel : y1 ≤ y0 + 0 := a4 (2, 1, 0) List.mem_cons_self y1 y0 u1 u0
    obtain ⟨T, hTn⟩ : ∃ T : Nat, y0 = (T : Int) := ⟨y0.toNat, by omega⟩
    obtain ⟨K, hKn⟩ : ∃ K : Nat, y1 = (K : Int) := ⟨y1.toNat, by omega⟩
    have eT : i0 = nI T := Int32.toInt_inj.mp (by rw [w0, hTn, nI_toInt (by omega)])
    have eK : i1 = nI K := Int32.toInt_inj.mp (by rw [w1, hKn, nI_toInt (by omega)])
    subst eT; subst eK
    have hvl : vv.length = 33 := (AOK_len b2).2
    refine ⟨Nat.le_of_ble_eq_true rfl, fun p e s m below meth c X hH ls hl => ?_⟩
    have hl : lv_has ls 2 [(0, .ref lo)] := hl
    have hH : HX D t lo 17 (nxF lo f fs K i2 st i3 wd) (px_A lo 17) s s.heap [] := by
      unfold nxF
      rw [nxt_same t7 t8 o9 t10 o11, px_upsame o1]
      exact hH
    refine nx_all (T := T) (gt := gt) ⟨o2, o5, t6, p1, by omega⟩ (Nat.le_refl _) X ⟨by decide, by decide⟩ ⟨Nat.le_refl _, Nat.le_refl _⟩ (by omega) hl hH (fun K' S tk v' wd' ls' H1 locs1 r1 r2 r3 r4 r5 hH => ?_)
    have base : ROK (xB Em lo xt) ([z0] ++ zv) (eqs 1 33) vv := rok_eqs _ _ _ [z0] b2 rfl
    have hV : ∀ (P1 P2 : XP), rok (xB Em lo xt) ([z0] ++ zv) P1 (.int (nI K')) → rok (xB Em lo xt) ([z0] ++ zv) P2 (.int tk) → ROK (xB Em lo xt) ([z0] ++ zv) (((((eqs 1 33).set 1 P1).set 2 P2).set 3 (pI 0 10000009)).set 4 (pI 0 0)) (((vv.set 1 (.int (nI K'))).set 2 (.int tk)).set 3 (.int v')) := by
      intro P1 P2 g1 g2
      have h := ROK_set (P := pI 0 0) (v := .int i4) ⟨i4, rfl, by omega, by omega⟩ 4 (ROK_set (P := pI 0 10000009) (v := .int v') ⟨v', rfl, r4.1, r4.2⟩ 3 (ROK_set g2 2 (ROK_set g1 1 base)))
      rw [set_get (ls := ((vv.set 1 (.int (nI K'))).set 2 (.int tk)).set 3 (.int v')) (by rw [List.getElem?_set_ne (by decide), List.getElem?_set_ne (by decide), List.getElem?_set_ne (by decide)]; exact s4)] at h
      exact h
    have trv := nx_trv (K := K') (tk := tk) (s := nI S) (v := v') (w := wd') o1 o2 hvl a1
    have bx : ∀ (g : Nat) (u w z : Int), (((Mm155.1 ++ Mm155.2.1).map bxp))[g]? = some (u, w) → ([z0] ++ zv)[g]? = some z → u ≤ z ∧ z ≤ w := fun g u w z q1 q2 => box_ent a2 q1 q2
    have zl : zv.length = 33 := (AOK_len b2).1
    have nK : (nI K').toInt = (K' : Int) := nI_toInt (by omega)
    -- the numbers of the relations
    have g2 : ∀ (L : List Int), (([z0] ++ zv) ++ L)[2]? = some (K : Int) := by
      intro L
      rw [List.getElem?_append_left (by simp [zl])]
      show zv[1]? = _
      rw [u1, hKn]
    have gs : ∀ (L : List Int) (j : Nat), (([z0] ++ zv) ++ L)[34 + j]? = L[j]? := by
      intro L j
      rw [List.getElem?_append_right (by simp [zl])]
      congr 1
      simp [zl]
    have g34 : ∀ (M : List Int), (([z0] ++ zv) ++ ((((vv.set 1 (Value.int (nI K'))).set 2 (.int tk)).set 3 (.int v')).map gv ++ M))[34]? = some (T : Int) := by
      intro M
      rw [show 34 = 34 + 0 from rfl, gs, List.getElem?_append_left (by simp [hvl]), List.getElem?_map, List.getElem?_set_ne (by decide), List.getElem?_set_ne (by decide), List.getElem?_set_ne (by decide), s0]
      show some ((nI T).toInt) = _
      rw [w0, hTn]
    have g35 : ∀ (M : List Int), (([z0] ++ zv) ++ ((((vv.set 1 (Value.int (nI K'))).set 2 (.int tk)).set 3 (.int v')).map gv ++ M))[35]? = some (K' : Int) := by
      intro M
      rw [show 35 = 34 + 1 from rfl, gs, List.getElem?_append_left (by simp [hvl]), List.getElem?_map, List.getElem?_set_ne (by decide), List.getElem?_set_ne (by decide), List.getElem?_set_self (by omega)]
      show some ((nI K').toInt) = _
      rw [nK]
    rcases r5 with r5 | ⟨r5, r6, r7⟩
    · subst r5
      refine hx_vret (E := Em) X hH (o := _) (List.mem_cons_self) ⟨bx, trivial, _, trv, hV (pI 0 1400) (pI 0 0) ⟨_, rfl, by omega, by omega⟩ ⟨_, rfl, by decide, by decide⟩, ?_⟩ (nx_typ hT o1 o2 (by omega)) (nx_fz hw hX o1) (show decode cX11_next 307 = .ok (.return_, 1) by decide +kernel)
      intro q hq x y hx hy
      rcases List.mem_cons.mp hq with rfl | hq
      · cases (g35 _).symm.trans hx; cases (g34 _).symm.trans hy; show (K' : Int) ≤ T + 0; omega
      · cases List.mem_singleton.mp hq
        cases (g2 _).symm.trans hx; cases (g35 _).symm.trans hy; show (K : Int) ≤ K' + 0; omega
    · refine hx_vret (E := Em) X hH (o := _) (List.mem_cons_of_mem _ List.mem_cons_self) ⟨bx, trivial, _, trv, hV (pI 1 1400) (pI 1 4) ⟨_, rfl, by omega, by omega⟩ ⟨_, rfl, r5, r6⟩, ?_⟩ (nx_typ hT o1 o2 (by omega)) (nx_fz hw hX o1) (show decode cX11_next 307 = .ok (.return_, 1) by decide +kernel)
      intro q hq x y hx hy
      rcases List.mem_cons.mp hq with rfl | hq
      · cases (g35 _).symm.trans hx; cases (g34 _).symm.trans hy; show (K' : Int) ≤ T + 0; omega
      · rcases List.mem_cons.mp hq with rfl | hq
        · cases (g2 _).symm.trans hx; cases (g35 _).symm.trans hy; show (K : Int) ≤ K' + 0; omega
        · cases List.mem_singleton.mp hq
          cases (g2 _).symm.trans hx; cases (g35 _).symm.trans hy; show (K : Int) ≤ K' + (-1); omega
