/-! contracts by hand: what stays; common -/
def eqs (n : Nat) : Nat → List XP
  | 0 => []
  | k + 1 => pE n 0 :: eqs (n + 1) k
def isI (P : XP) : Bool := match P with
  | .inl (.inl _) => true
  | _ => false
theorem rok_eqs {B : Nat → Nat → Prop} : ∀ (ps : List XP) (ws : List Value) (zs pre : List Int), AOK B ps ws zs → ps.all isI = true → ROK B (pre ++ zs) (eqs pre.length ps.length) ws
  | [], [], [], _, _, _ => trivial
  | P :: ps, v :: ws, z :: zs, pre, h, hi => by
    obtain ⟨h1, h2⟩ := h
    simp only [List.all_cons, Bool.and_eq_true] at hi
    have ih := rok_eqs ps ws zs (pre ++ [z]) h2 hi.2
    rw [List.append_assoc, List.length_append] at ih
    refine ⟨?_, ih⟩
    match P, hi.1, h1 with
    | .inl (.inl (a, b)), _, ⟨i, e1, e2, _⟩ => exact ⟨i, e1, by simp [xval, e2]⟩
  | [], _ :: _, _, _, h, _ => by simp [AOK] at h
  | [], [], _ :: _, _, h, _ => by simp [AOK] at h
  | _ :: _, [], _, _, h, _ => by simp [AOK] at h
  | _ :: _, _ :: _, [], _, h, _ => by simp [AOK] at h
def bxp (P : XP) : Int × Int := match P with
  | .inl (.inl p) => p
  | .inl (.inr p) => p
  | _ => (0, 0)
theorem box_ent {B : Nat → Nat → Prop} {ps : List XP} {vs : List Value} {zs : List Int} (h : AOK B ps vs zs) {g : Nat} {u w z : Int} (h1 : (ps.map bxp)[g]? = some (u, w)) (h2 : zs[g]? = some z) : u ≤ z ∧ z ≤ w := by
  obtain ⟨P, v, a, b⟩ := AOK_at h h2
  rw [List.getElem?_map, a] at h1
  simp only [Option.map_some, Option.some.injEq] at h1
  match P, b, h1 with
  | .inl (.inl (x, y)), ⟨i, _, e, q1, q2⟩, h1 => cases h1; exact ⟨q1, q2⟩
  | .inl (.inr (x, y)), ⟨i, _, e, q1, q2⟩, h1 => cases h1; exact ⟨q1, q2⟩
  | .inr (.inl k), ⟨_, e⟩, h1 => cases h1; subst e; exact ⟨Int.le_refl _, Int.le_refl _⟩
/-- a method that leaves the pool as it is: its way out, by its answer -/
theorem OOK_pure {E : XE} {xt : XX} {lo : Nat} {M : XM} {vs : List Value} {G0 : List Int} {f : Nat → va_E} (h : ENT E xt lo M vs G0 f) (hV : M.2.1.all isI = true) {o : XO} {ov : Option Value} (h1 : o.1 = (M.1 ++ M.2.1).map bxp) (h3 : o.2.2.1 = eqs M.1.length M.2.1.length) (h4 : o.2.2.2 = [])
    (h2 : match o.2.1, ov with | none, none => True | some P, some v => rok (xB E lo xt) G0 P v | _, _ => False) : OOK E xt lo G0 o ov f := by
  obtain ⟨vv, a, b, c, -⟩ := h
  refine ⟨fun g u w z q1 q2 => box_ent b (by rw [← h1]; exact q1) q2, h2, vv, a, ?_, ?_⟩
  · obtain ⟨za, zv, e1, e2, e3⟩ := AOK_split b c
    rw [h3, e1, ← (AOK_len e2).1]
    exact rok_eqs _ _ _ _ e3 hV
  · rw [h4]
    intro q hq
    cases hq
theorem irem_i {x y : Int32} (hy : y ≠ 0) : (x - x / y * y).toInt = x.toInt.tmod y.toInt := by
  have hy0 : y.toInt ≠ 0 := fun e => hy (Int32.toInt_inj.mp e)
  have b1 := i32_b x
  have b2 := i32_b y
  have z1 : lo32 = -2147483648 ∧ hi32 = 2147483647 := ⟨rfl, rfl⟩
  have e := Int.mul_tdiv_add_tmod x.toInt y.toInt
  rw [Int.mul_comm] at e
  have p1 : x.toInt - (x.toInt.tdiv y.toInt) * y.toInt = x.toInt.tmod y.toInt := by omega
  have m0 : (x.toInt.tmod y.toInt).natAbs < y.toInt.natAbs := by
    rw [Int.natAbs_tmod]
    exact Nat.mod_lt _ (by omega)
  rw [Int32.toInt_sub, Int32.toInt_mul, Int32.toInt_div, Int.bmod_mul_bmod, Int.sub_bmod_bmod, p1, bm32 (by omega) (by omega)]
theorem c_common0 (l : Launch) (D : va_G) (t : Nat → ClassId) (lo n k : Nat) (f : Nat → va_E) (a : Int32) : MetM l yX11_common cX11_common 2 (some .int) k D t lo n f [.int a, .int 0] f (some (.int a)) := by
  refine MetM.start (by decide +kernel) (Nat.le_of_ble_eq_true rfl) ?_
  intro p e s m below meth c X hH ls hl
  have hl : lv_has ls 2 [(0, .int a), (1, .int 0)] := hl
  refine lv_iload_n X.1 X.2.1 (show decode cX11_common 0 = .ok (.iload_n 1, 1) by decide +kernel) rfl (lv_at hl 1 rfl) ?_
  refine lv_if_ne (tgt := 8) X.1 X.2.1 (show decode cX11_common 1 = .ok (.ifCond .ne 7, 3) by decide +kernel) (by decide) (fun q => absurd rfl q) (fun _ => ?_)
  refine lv_iload_n X.1 X.2.1 (show decode cX11_common 4 = .ok (.iload_n 0, 1) by decide +kernel) rfl (lv_at hl 0 rfl) ?_
  refine lv_goto (tgt := 15) X.1 X.2.1 (show decode cX11_common 5 = .ok (.goto 10, 3) by decide +kernel) (by decide) ?_
  exact px_iret X hH rfl (show decode cX11_common 15 = .ok (.ireturn, 1) by decide +kernel)
theorem c_common1 (l : Launch) (D : va_G) (t : Nat → ClassId) (lo n k : Nat) (f : Nat → va_E) (a b r : Int32) (hb : b ≠ 0) (hM : MetM l yX11_common cX11_common 2 (some .int) k D t lo n f [.int b, .int (a - a / b * b)] f (some (.int r))) : MetM l yX11_common cX11_common 2 (some .int) (k + 1) D t lo n f [.int a, .int b] f (some (.int r)) := by
  refine MetM.start (by decide +kernel) (Nat.le_of_ble_eq_true rfl) ?_
  intro p e s m below meth c X hH ls hl
  have hl : lv_has ls 2 [(0, .int a), (1, .int b)] := hl
  refine lv_iload_n X.1 X.2.1 (show decode cX11_common 0 = .ok (.iload_n 1, 1) by decide +kernel) rfl (lv_at hl 1 rfl) ?_
  refine lv_if_ne (tgt := 8) X.1 X.2.1 (show decode cX11_common 1 = .ok (.ifCond .ne 7, 3) by decide +kernel) (by decide) (fun _ => ?_) (fun q => absurd q hb)
  refine lv_iload_n X.1 X.2.1 (show decode cX11_common 8 = .ok (.iload_n 1, 1) by decide +kernel) rfl (lv_at hl 1 rfl) ?_
  refine lv_iload_n X.1 X.2.1 (show decode cX11_common 9 = .ok (.iload_n 0, 1) by decide +kernel) rfl (lv_at hl 0 rfl) ?_
  refine lv_iload_n X.1 X.2.1 (show decode cX11_common 10 = .ok (.iload_n 1, 1) by decide +kernel) rfl (lv_at hl 1 rfl) ?_
  refine lv_irem X.1 X.2.1 (show decode cX11_common 11 = .ok (.irem, 1) by decide +kernel) hb ?_
  refine px_callS (k := k) (idx := 418) (na := 2) (rest := []) X hH hM mw_1833 mw_1834 mw_12 mw_1835 (by decide +kernel) ⟨Nat.le_refl _, ?_⟩ ⟨Nat.le_refl _, Nat.le_refl _⟩ hl.1 rfl rfl (Nat.zero_le _) (show decode cX11_common 12 = .ok (.invokestatic 418, 3) by decide +kernel) (fun H1 locs1 h1 _ => ?_)
  · show 8 + (2 + 11) + 60 * k ≤ 60 * (k + 1)
    omega
  · exact px_iret X h1 rfl (show decode cX11_common 15 = .ok (.ireturn, 1) by decide +kernel)
theorem c_common (l : Launch) (D : va_G) (t : Nat → ClassId) (lo n : Nat) (f : Nat → va_E) : ∀ (j k : Nat) (a b : Int32), 2 * j ≤ k → b.toInt.natAbs < 2 ^ j → ∃ r : Int32, MetM l yX11_common cX11_common 2 (some .int) k D t lo n f [.int a, .int b] f (some (.int r)) ∧ (b ≠ 0 → r.toInt ≠ 0 ∧ r.toInt.natAbs ≤ b.toInt.natAbs)
  | 0, k, a, b, _, h => by
    have e : b = 0 := Int32.toInt_inj.mp (by
      have : b.toInt.natAbs = 0 := by simpa using h
      show b.toInt = 0
      omega)
    subst e
    exact ⟨a, c_common0 l D t lo n k f a, fun q => absurd rfl q⟩
  | j + 1, k, a, b, hk, h => by
    by_cases hb : b = 0
    · subst hb
      exact ⟨a, c_common0 l D t lo n k f a, fun q => absurd rfl q⟩
    · have hb0 : b.toInt ≠ 0 := fun e => hb (Int32.toInt_inj.mp e)
      obtain ⟨k, rfl⟩ : ∃ k', k = k' + 2 := ⟨k - 2, by omega⟩
      have e1 := irem_i (x := a) hb
      have m1 : (a.toInt.tmod b.toInt).natAbs < b.toInt.natAbs := by
        rw [Int.natAbs_tmod]; exact Nat.mod_lt _ (by omega)
      by_cases hr : a - a / b * b = 0
      · refine ⟨b, c_common1 l D t lo n (k + 1) f a b b hb (by rw [hr]; exact c_common0 l D t lo n (k + 1) f b), fun _ => ⟨hb0, Nat.le_refl _⟩⟩
      · have hr0 : (a - a / b * b).toInt ≠ 0 := fun e => hr (Int32.toInt_inj.mp e)
        have e2 := irem_i (x := b) hr
        have m2 : (b.toInt.tmod (a - a / b * b).toInt).natAbs * 2 < b.toInt.natAbs := by
          rw [Int.natAbs_tmod]
          rw [← e1] at m1
          have q1 := Nat.mod_lt b.toInt.natAbs (y := (a - a / b * b).toInt.natAbs) (by omega)
          have q2 := Nat.div_add_mod b.toInt.natAbs (a - a / b * b).toInt.natAbs
          have q3 : 1 ≤ b.toInt.natAbs / (a - a / b * b).toInt.natAbs := Nat.div_pos (by omega) (by omega)
          have q4 := Nat.mul_le_mul_left (a - a / b * b).toInt.natAbs q3
          omega
        have hp : 2 ^ (j + 1) = 2 ^ j * 2 := Nat.pow_succ 2 j
        obtain ⟨r, hM, hq⟩ := c_common l D t lo n f j k (a - a / b * b) (b - b / (a - a / b * b) * (a - a / b * b)) (by omega) (by rw [e2]; omega)
        by_cases hz : b - b / (a - a / b * b) * (a - a / b * b) = 0
        · refine ⟨a - a / b * b, c_common1 l D t lo n (k + 1) f a b _ hb (c_common1 l D t lo n k f b _ _ hr (by rw [hz]; exact c_common0 l D t lo n k f _)), fun _ => ⟨hr0, ?_⟩⟩
          rw [e1]; omega
        · refine ⟨r, c_common1 l D t lo n (k + 1) f a b _ hb (c_common1 l D t lo n k f b _ _ hr hM), fun _ => ⟨(hq hz).1, ?_⟩⟩
          have := (hq hz).2
          rw [e2] at this
          omega
theorem g_common (l : Launch) (xt : XX) (D : va_G) (t : Nat → ClassId) (lo : Nat) : HOLDS l Em xt D t lo Ym64 Mm118 := by
  refine HOLDS_of (fun vs G0 f hE hT hX => ?_)
  obtain ⟨vv, a1, a2, a3, a4⟩ := hE
  match vs, a3 with
  | [v1, v2], _ =>
    match G0, a2 with
    | z1 :: z2 :: G0, ⟨⟨a, e1, f1, _⟩, ⟨b, e2, f2, g1, g2⟩, a5⟩ =>
      subst e1; subst e2
      have hb : b ≠ 0 := fun e => by subst e; rw [← f2] at g1; exact absurd g1 (by decide)
      obtain ⟨r, hM, hr⟩ := c_common l D t lo Em.2.1.length f 17 64 a b (by decide) (by omega)
      obtain ⟨r1, r2⟩ := hr hb
      have hE : ENT Em xt lo Mm118 [.int a, .int b] (z1 :: z2 :: G0) f := ⟨vv, a1, ⟨⟨a, rfl, f1, by assumption⟩, ⟨b, rfl, f2, g1, g2⟩, a5⟩, rfl, a4⟩
      by_cases c : 0 < r.toInt
      · exact ⟨f, _, _, hM, List.mem_cons_self, OOK_pure hE rfl rfl rfl rfl ⟨r, rfl, by omega, by omega⟩, hT, ⟨fun _ _ _ _ => rfl, hX⟩⟩
      · exact ⟨f, _, _, hM, List.mem_cons_of_mem _ List.mem_cons_self, OOK_pure hE rfl rfl rfl rfl ⟨r, rfl, by omega, by omega⟩, hT, ⟨fun _ _ _ _ => rfl, hX⟩⟩
