theorem AOK_cons {B : Nat → Nat → Prop} {P : XP} {ps : List XP} {vs : List Value} {zs : List Int} (h : AOK B (P :: ps) vs zs) : ∃ v vs' z zs', vs = v :: vs' ∧ zs = z :: zs' ∧ pok B P v z ∧ AOK B ps vs' zs' := by
  match vs, zs, h with
  | v :: vs', z :: zs', ⟨h1, h2⟩ => exact ⟨v, vs', z, zs', rfl, rfl, h1, h2⟩
theorem AOK_nil {B : Nat → Nat → Prop} {vs : List Value} {zs : List Int} (h : AOK B [] vs zs) : vs = [] ∧ zs = [] := by
  match vs, zs, h with
  | [], [], _ => exact ⟨rfl, rfl⟩
def M1p (n w : Int32) : XM := ([pR 0, pI n.toInt n.toInt, pI w.toInt w.toInt], [pI 0 0, pI 0 0], [([], some (pI (prI n w).toInt (prI n w).toInt), [pI 0 0, pI 0 0])])
def MF1 : XM := ([pR 0, pI lo32 hi32, pI lo32 hi32], [pI 0 0, pI 0 0], [])
def P1 (y : XC) : Bool := match y with
  | (pc, gi, _, S, V) => (match V with
    | [.inl (.inl a), .inl (.inl b)] => (match xiv gi a, xiv gi b with
      | some (a1, a2), some (b1, b2) => decide (0 ≤ a1) && decide (a2 ≤ 0) && decide (0 ≤ b1) && decide (b2 ≤ 0)
      | _, _ => false)
    | _ => false) && (match gi with
    | _ :: (l1, h1, _) :: (l2, h2, _) :: _ => (match S with
      | [.inl (.inl n)] => pc == 22 && n == (none, -2) && (decide (h1 < 0) || decide (1000000 < l1) || decide (h2 < 0) || decide (9 < l2))
      | [.inl (.inl n), .inl (.inr k)] => pc == 26 && n == (some 2, 0) && k == (some 1, 0) && decide (0 ≤ l1) && decide (h1 ≤ 1000000) && decide (0 ≤ l2) && decide (h2 ≤ 9)
      | _ => false)
    | _ => false)
set_option maxHeartbeats 1000000 in
theorem H1p (l : Launch) (D : va_G) (t : Nat → ClassId) (lo : Nat) (n w : Int32) : HOLDS l E1 D t lo Y55 (M1p n w) := by
  intro vs G0 f hent hT
  obtain ⟨vv, hv, ha, hlen⟩ := hent
  obtain ⟨za, zv, rfl, ha1, ha2⟩ := AOK_split ha hlen
  obtain ⟨a, vs, z0, za, rfl, rfl, h0, ha1⟩ := AOK_cons ha1
  obtain ⟨b, vs, z1, za, rfl, rfl, h1, ha1⟩ := AOK_cons ha1
  obtain ⟨c, vs, z2, za, rfl, rfl, h2, ha1⟩ := AOK_cons ha1
  obtain ⟨rfl, rfl⟩ := AOK_nil ha1
  obtain ⟨d, vv, z3, zv, rfl, rfl, h3, ha2⟩ := AOK_cons ha2
  obtain ⟨e, vv, z4, zv, rfl, rfl, h4, ha2⟩ := AOK_cons ha2
  obtain ⟨rfl, rfl⟩ := AOK_nil ha2
  · · obtain ⟨i, rfl, hi, hi1, hi2⟩ := h1
      obtain ⟨j, rfl, hj, hj1, hj2⟩ := h2
      have ein : i = n := Int32.toInt_inj.mp (by omega)
      have ejw : j = w := Int32.toInt_inj.mp (by omega)
      subst ein; subst ejw
      have b1 := i32_b i
      have b2 := i32_b j
      refine run_start (Y := Y55) (M := MF1) (by decide +kernel) (by decide) ⟨[d, e], hv, (show AOK (xB E1 lo) (MF1.1 ++ MF1.2.1) ([a, .int i, .int j] ++ [d, e]) [z0, z1, z2, z3, z4] from ⟨h0, ⟨i, rfl, hi, by omega, by omega⟩, ⟨j, rfl, hj, by omega, by omega⟩, h3, h4, trivial⟩), rfl⟩ hT ?_
      intro p e' s m below meth c X
      refine xrunP_ok (g := ((q_X10, fl_X10, ml_X10, ac_X10), (3, 1), (depP, []))) (ys := ysP) (P := P1) X ⟨tw1, q_X10_ok, fl_X10_ok, ml_X10_ok, ac_X10_ok, depP_ok, fun _ h => absurd h List.not_mem_nil⟩ rfl ⟨Nat.le_refl _, Nat.le_refl _⟩ ⟨Nat.le_refl _, Nat.le_refl _⟩ ?_ 30 _ (by decide +kernel)
      intro y hy H locs ls st hs
      obtain ⟨pc, gi, L, S, V⟩ := y
      simp only [P1, Bool.and_eq_true] at hy
      obtain ⟨hyV, hy⟩ := hy
      obtain ⟨Gs, f', lv, ⟨r0, hr0⟩, hg, hl, hL, hS, hV, hT', hZ, hH⟩ := hs
      -- V at the end
      have hVend : ∀ (j a k : Nat) (P : XP), E1.2.2.2[j]? = some (a, k) → ([pI 0 0, pI 0 0] : List XP)[j]? = some P → ∃ (ci : Nat) (fs : List Value) (v : Value), f' (lo + a) = .inr (ci, fs) ∧ fs[k]? = some v ∧ rok (xB E1 lo) [z0, z1, z2, z3, z4] P v := by
        split at hyV
        · rename_i a b
          split at hyV
          · rename_i a1 a2 c1 c2 ea eb
            simp only [Bool.and_eq_true, decide_eq_true_eq] at hyV
            intro j q k P g1 g2
            match j, g2 with
            | 0, g2 =>
              simp only [List.getElem?_cons_zero, Option.some.injEq] at g2
              subst g2
              obtain ⟨ci, fs, v, u1, u2, ⟨x, rfl, ux⟩⟩ := hV 0 q k _ g1 rfl
              have := xiv_ok hg ea ux
              exact ⟨ci, fs, _, u1, u2, x, rfl, by omega, by omega⟩
            | 1, g2 =>
              simp only [List.getElem?_cons_succ, List.getElem?_cons_zero, Option.some.injEq] at g2
              subst g2
              obtain ⟨ci, fs, v, u1, u2, ⟨x, rfl, ux⟩⟩ := hV 1 q k _ g1 rfl
              have := xiv_ok hg eb ux
              exact ⟨ci, fs, _, u1, u2, x, rfl, by omega, by omega⟩
            | j + 2, g2 => simp at g2
          · cases hyV
        · cases hyV
      have fin : ∀ (v : Int32) (pc : Nat) (H : Heap) (locs : List Loc), v = prI i j → HX D t lo E1.2.1.length f' (px_A lo E1.2.1.length) s H locs → decode cX10_price pc = .ok (.ireturn, 1) → W p l e' (px_rm Y55.2.2.2.2) s m [a, Value.int i, Value.int j].toArray below meth c H locs 0 0 (MQ below (QcX E1 D t lo (M1p i j) [z0, z1, z2, z3, z4] f) [a, Value.int i, Value.int j].toArray s 0 0 (px_A lo E1.2.1.length)) (F0 m pc ls [.int v]) := by
        intro v pc H locs hvv hH hd
        exact W.iret X.1 X.2.1 X.2.2.2.2.2.2 (fun tt ht hW => ⟨_, f', _, rfl, List.mem_cons_self, ⟨fun g u w z h => by simp at h, ⟨v, rfl, by rw [hvv]; exact Int.le_refl _, by rw [hvv]; exact Int.le_refl _⟩, hVend⟩, hT', hZ, by rw [ht]; exact hH.2.1, hH.2.2.2.F ht⟩) hH.2.2.2.2.2 hd X.2.2.2.2.2.1
      have g1 : Gs[1]? = some z1 := by rw [hr0]; rfl
      have g2 : Gs[2]? = some z2 := by rw [hr0]; rfl
      split at hy
      · rename_i l1 u1 q1 l2 u2 q2 rest
        have k1 := hg.2 1 l1 u1 q1 z1 rfl g1
        have k2 := hg.2 2 l2 u2 q2 z2 rfl g2
        split at hy
        · rename_i nn
          simp only [Bool.and_eq_true, Bool.or_eq_true, beq_iff_eq, decide_eq_true_eq] at hy
          obtain ⟨⟨hpc, hnn⟩, hout⟩ := hy
          subst hpc; subst hnn
          obtain ⟨v1, st1, rfl, ⟨v, rfl, hvx⟩, hS1⟩ := SR_cons hS
          match st1, hS1 with
          | [], _ =>
            simp only [xval, Option.some.injEq] at hvx
            refine fin v 22 H locs (Int32.toInt_inj.mp ?_) hH (show decode cX10_price 22 = .ok (.ireturn, 1) from dq_ok (by decide +kernel))
            rw [prI, if_neg (by omega), ← hvx]
            rfl
        · rename_i nn kk
          simp only [Bool.and_eq_true, beq_iff_eq, decide_eq_true_eq] at hy
          obtain ⟨⟨⟨⟨⟨⟨hpc, hnn⟩, hkk⟩, e1⟩, e2⟩, e3⟩, e4⟩ := hy
          subst hpc; subst hnn; subst hkk
          obtain ⟨v1, st1, rfl, ⟨v, rfl, hvx⟩, hS1⟩ := SR_cons hS
          obtain ⟨v2, st2, rfl, ⟨u, rfl, hux⟩, hS2⟩ := SR_cons hS1
          match st2, hS2 with
          | [], _ =>
            simp only [xval, g2, g1, Option.map_some, Option.some.injEq] at hvx hux
            have ev : v = j := Int32.toInt_inj.mp (by omega)
            have eu : u = i.toInt64 := Int64.toInt_inj.mp (by rw [Int32.toInt_toInt64]; omega)
            subst ev; subst eu
            obtain ⟨Yc, hYc, m1, m2, m3, m4, m5, m6⟩ := ml_X10_ok 219 54 1 2 _ rfl
            cases hYc
            rw [if_pos rfl] at m6
            refine px_callS (na := 2) (k := 0) (As := [.long i.toInt64, .int v]) (rest := []) X hH (c_priceAt l D t lo E1.2.1.length f' i.toInt64 v) m1 m6 m3 m2 m4 (by decide) ⟨Nat.le_refl _, Nat.le_refl _⟩ hl.1 rfl rfl (by decide) (show decode cX10_price 26 = .ok (.invokestatic 219, 3) from dq_ok (by decide +kernel)) (fun H1 locs1 hH1 _ => ?_)
            have hpr : (prL i.toInt64 v).toInt32 = prI i v := by rw [prI, if_pos (by omega)]
            refine lv_l2i X.1 X.2.1 (show decode cX10_price 29 = .ok (.l2i, 1) from dq_ok (by decide +kernel)) rfl ?_
            exact fin _ 30 H1 locs1 hpr hH1 (show decode cX10_price 30 = .ok (.ireturn, 1) from dq_ok (by decide +kernel))
        · cases hy
      · cases hy
def M2p (n w : Int32) : XM := ([pR 33, pI n.toInt n.toInt, pI w.toInt w.toInt], [pI 0 20, pI 0 0], [([], some (pI (prI n w).toInt (prI n w).toInt), [pI 0 20, pI 0 0])])
def MF2 : XM := ([pR 33, pI lo32 hi32, pI lo32 hi32], [pI 0 20, pI 0 0], [])
def P2 (y : XC) : Bool := match y with
  | (pc, gi, _, S, V) => (match V with
    | [.inl (.inl a), .inl (.inl b)] => (match xiv gi a, xiv gi b with
      | some (a1, a2), some (b1, b2) => decide (0 ≤ a1) && decide (a2 ≤ 20) && decide (0 ≤ b1) && decide (b2 ≤ 0)
      | _, _ => false)
    | _ => false) && (match gi with
    | _ :: (l1, h1, _) :: (l2, h2, _) :: _ => (match S with
      | [.inl (.inl n)] => pc == 41 && n == (none, -2) && (decide (h1 < 0) || decide (1000000 < l1) || decide (h2 < 0) || decide (9 < l2))
      | [.inl (.inl n), .inl (.inr k)] => pc == 32 && n == (some 2, 0) && k == (some 1, 0) && decide (0 ≤ l1) && decide (h1 ≤ 1000000) && decide (0 ≤ l2) && decide (h2 ≤ 9)
      | _ => false)
    | _ => false)
set_option maxHeartbeats 1000000 in
theorem H2p (l : Launch) (D : va_G) (t : Nat → ClassId) (lo : Nat) (n w : Int32) : HOLDS l E1 D t lo Y57 (M2p n w) := by
  intro vs G0 f hent hT
  obtain ⟨vv, hv, ha, hlen⟩ := hent
  obtain ⟨za, zv, rfl, ha1, ha2⟩ := AOK_split ha hlen
  obtain ⟨a, vs, z0, za, rfl, rfl, h0, ha1⟩ := AOK_cons ha1
  obtain ⟨b, vs, z1, za, rfl, rfl, h1, ha1⟩ := AOK_cons ha1
  obtain ⟨c, vs, z2, za, rfl, rfl, h2, ha1⟩ := AOK_cons ha1
  obtain ⟨rfl, rfl⟩ := AOK_nil ha1
  obtain ⟨d, vv, z3, zv, rfl, rfl, h3, ha2⟩ := AOK_cons ha2
  obtain ⟨e, vv, z4, zv, rfl, rfl, h4, ha2⟩ := AOK_cons ha2
  obtain ⟨rfl, rfl⟩ := AOK_nil ha2
  · · obtain ⟨i, rfl, hi, hi1, hi2⟩ := h1
      obtain ⟨j, rfl, hj, hj1, hj2⟩ := h2
      have ein : i = n := Int32.toInt_inj.mp (by omega)
      have ejw : j = w := Int32.toInt_inj.mp (by omega)
      subst ein; subst ejw
      have b1 := i32_b i
      have b2 := i32_b j
      refine run_start (Y := Y57) (M := MF2) (by decide +kernel) (by decide) ⟨[d, e], hv, (show AOK (xB E1 lo) (MF2.1 ++ MF2.2.1) ([a, .int i, .int j] ++ [d, e]) [z0, z1, z2, z3, z4] from ⟨h0, ⟨i, rfl, hi, by omega, by omega⟩, ⟨j, rfl, hj, by omega, by omega⟩, h3, h4, trivial⟩), rfl⟩ hT ?_
      intro p e' s m below meth c X
      refine xrunP_ok (g := ((q_X11, fl_X11, ml_X11, ac_X11), (3, 1), (depP, [(5, M85), (5, M86)]))) (ys := ysP) (P := P2) X ⟨tw1, q_X11_ok, fl_X11_ok, ml_X11_ok, ac_X11_ok, depP_ok, List.forall_mem_cons.mpr ⟨⟨Y5, rfl, H85 l D t lo⟩, List.forall_mem_cons.mpr ⟨⟨Y5, rfl, H86 l D t lo⟩, fun _ h => absurd h List.not_mem_nil⟩⟩⟩ rfl ⟨Nat.le_refl _, Nat.le_refl _⟩ ⟨Nat.le_refl _, Nat.le_refl _⟩ ?_ 40 _ (by decide +kernel)
      intro y hy H locs ls st hs
      obtain ⟨pc, gi, L, S, V⟩ := y
      simp only [P2, Bool.and_eq_true] at hy
      obtain ⟨hyV, hy⟩ := hy
      obtain ⟨Gs, f', lv, ⟨r0, hr0⟩, hg, hl, hL, hS, hV, hT', hZ, hH⟩ := hs
      -- V at the end
      have hVend : ∀ (j a k : Nat) (P : XP), E1.2.2.2[j]? = some (a, k) → ([pI 0 20, pI 0 0] : List XP)[j]? = some P → ∃ (ci : Nat) (fs : List Value) (v : Value), f' (lo + a) = .inr (ci, fs) ∧ fs[k]? = some v ∧ rok (xB E1 lo) [z0, z1, z2, z3, z4] P v := by
        split at hyV
        · rename_i a b
          split at hyV
          · rename_i a1 a2 c1 c2 ea eb
            simp only [Bool.and_eq_true, decide_eq_true_eq] at hyV
            intro j q k P g1 g2
            match j, g2 with
            | 0, g2 =>
              simp only [List.getElem?_cons_zero, Option.some.injEq] at g2
              subst g2
              obtain ⟨ci, fs, v, u1, u2, ⟨x, rfl, ux⟩⟩ := hV 0 q k _ g1 rfl
              have := xiv_ok hg ea ux
              exact ⟨ci, fs, _, u1, u2, x, rfl, by omega, by omega⟩
            | 1, g2 =>
              simp only [List.getElem?_cons_succ, List.getElem?_cons_zero, Option.some.injEq] at g2
              subst g2
              obtain ⟨ci, fs, v, u1, u2, ⟨x, rfl, ux⟩⟩ := hV 1 q k _ g1 rfl
              have := xiv_ok hg eb ux
              exact ⟨ci, fs, _, u1, u2, x, rfl, by omega, by omega⟩
            | j + 2, g2 => simp at g2
          · cases hyV
        · cases hyV
      have fin : ∀ (v : Int32) (pc : Nat) (H : Heap) (locs : List Loc), v = prI i j → HX D t lo E1.2.1.length f' (px_A lo E1.2.1.length) s H locs → decode cX11_price pc = .ok (.ireturn, 1) → W p l e' (px_rm Y57.2.2.2.2) s m [a, Value.int i, Value.int j].toArray below meth c H locs 0 0 (MQ below (QcX E1 D t lo (M2p i j) [z0, z1, z2, z3, z4] f) [a, Value.int i, Value.int j].toArray s 0 0 (px_A lo E1.2.1.length)) (F0 m pc ls [.int v]) := by
        intro v pc H locs hvv hH hd
        exact W.iret X.1 X.2.1 X.2.2.2.2.2.2 (fun tt ht hW => ⟨_, f', _, rfl, List.mem_cons_self, ⟨fun g u w z h => by simp at h, ⟨v, rfl, by rw [hvv]; exact Int.le_refl _, by rw [hvv]; exact Int.le_refl _⟩, hVend⟩, hT', hZ, by rw [ht]; exact hH.2.1, hH.2.2.2.F ht⟩) hH.2.2.2.2.2 hd X.2.2.2.2.2.1
      have g1 : Gs[1]? = some z1 := by rw [hr0]; rfl
      have g2 : Gs[2]? = some z2 := by rw [hr0]; rfl
      split at hy
      · rename_i l1 u1 q1 l2 u2 q2 rest
        have k1 := hg.2 1 l1 u1 q1 z1 rfl g1
        have k2 := hg.2 2 l2 u2 q2 z2 rfl g2
        split at hy
        · rename_i nn
          simp only [Bool.and_eq_true, Bool.or_eq_true, beq_iff_eq, decide_eq_true_eq] at hy
          obtain ⟨⟨hpc, hnn⟩, hout⟩ := hy
          subst hpc; subst hnn
          obtain ⟨v1, st1, rfl, ⟨v, rfl, hvx⟩, hS1⟩ := SR_cons hS
          match st1, hS1 with
          | [], _ =>
            simp only [xval, Option.some.injEq] at hvx
            refine fin v 41 H locs (Int32.toInt_inj.mp ?_) hH (show decode cX11_price 41 = .ok (.ireturn, 1) from dq_ok (by decide +kernel))
            rw [prI, if_neg (by omega), ← hvx]
            rfl
        · rename_i nn kk
          simp only [Bool.and_eq_true, beq_iff_eq, decide_eq_true_eq] at hy
          obtain ⟨⟨⟨⟨⟨⟨hpc, hnn⟩, hkk⟩, e1⟩, e2⟩, e3⟩, e4⟩ := hy
          subst hpc; subst hnn; subst hkk
          obtain ⟨v1, st1, rfl, ⟨v, rfl, hvx⟩, hS1⟩ := SR_cons hS
          obtain ⟨v2, st2, rfl, ⟨u, rfl, hux⟩, hS2⟩ := SR_cons hS1
          match st2, hS2 with
          | [], _ =>
            simp only [xval, g2, g1, Option.map_some, Option.some.injEq] at hvx hux
            have ev : v = j := Int32.toInt_inj.mp (by omega)
            have eu : u = i.toInt64 := Int64.toInt_inj.mp (by rw [Int32.toInt_toInt64]; omega)
            subst ev; subst eu
            obtain ⟨Yc, hYc, m1, m2, m3, m4, m5, m6⟩ := ml_X11_ok 316 56 1 2 _ rfl
            cases hYc
            rw [if_pos rfl] at m6
            refine px_callS (na := 2) (k := 0) (As := [.long i.toInt64, .int v]) (rest := []) X hH (c_priceOf l D t lo E1.2.1.length f' i.toInt64 v) m1 m6 m3 m2 m4 (by decide) ⟨Nat.le_refl _, Nat.le_refl _⟩ hl.1 rfl rfl (by decide) (show decode cX11_price 32 = .ok (.invokestatic 316, 3) from dq_ok (by decide +kernel)) (fun H1 locs1 hH1 _ => ?_)
            have hpr : (prL i.toInt64 v).toInt32 = prI i v := by rw [prI, if_pos (by omega)]
            refine lv_l2i X.1 X.2.1 (show decode cX11_price 35 = .ok (.l2i, 1) from dq_ok (by decide +kernel)) rfl ?_
            refine lv_goto (tgt := 41) X.1 X.2.1 (show decode cX11_price 36 = .ok (.goto 5, 3) from dq_ok (by decide +kernel)) rfl ?_
            exact fin _ 41 H1 locs1 hpr hH1 (show decode cX11_price 41 = .ok (.ireturn, 1) from dq_ok (by decide +kernel))
        · cases hy
      · cases hy
