/-! isBit of the reference, as a step of its own: a bit that is 1 is remembered -/
def bt (x : Int32) (i : Nat) : Bool := x.toBitVec.getLsbD i
theorem b_ext {x y : Int32} (h : ∀ i, i < 32 → bt x i = bt y i) : x = y := Int32.toBitVec_inj.mp (BitVec.eq_of_getLsbD_eq (fun i hi => h i hi))
theorem b_and (x y : Int32) (i : Nat) : bt (x &&& y) i = (bt x i && bt y i) := by unfold bt; rw [Int32.toBitVec_and, BitVec.getLsbD_and]
theorem s_l : ∀ n, n < 32 → ((nI n &&& 31).toBitVec.smod 32).toNat = n := by decide +kernel
theorem b_sshr (n : Nat) (hn : n < 32) (x : Int32) {i : Nat} (hi : i < 32) : bt (x >>> (nI n &&& 31)) i = if n + i < 32 then bt x (n + i) else bt x 31 := by
  unfold bt
  rw [Int32.toBitVec_shiftRight]
  show (x.toBitVec.sshiftRight ((nI n &&& 31).toBitVec.smod 32).toNat).getLsbD i = _
  rw [s_l n hn, BitVec.getLsbD_sshiftRight, BitVec.msb_eq_getLsbD_last]
  simp [hi]
theorem b_1 : ∀ i, i < 32 → bt 1 i = decide (i = 0) := by decide +kernel
def bitF (b k : Int32) : Int32 := if ((b >>> (k &&& 31)) &&& 1) = 1 then 1 else 0
theorem bitF_ok {b k : Int32} {n : Nat} (hn : n ≤ 30) (hk : k.toInt = (n : Int)) (hb : 0 ≤ b.toInt) : bitF b k = (if b.toInt.toNat.testBit n = true then 1 else 0) := by
  obtain ⟨x1, x2⟩ := n_of0 hb
  have ek : k = nI n := Int32.toInt_inj.mp (by rw [hk, nI_toInt (by omega)])
  have e0 : bt (b >>> (k &&& 31) &&& 1) 0 = b.toInt.toNat.testBit n := by
    rw [ek, b_and, b_sshr n (by omega) b (by omega), if_pos (by omega), b_1 0 (by omega), x2, Int.toNat_natCast]
    simp only [bt, Nat.add_zero, decide_true, Bool.and_true]
    rfl
  have er : ∀ i, i < 32 → i ≠ 0 → bt (b >>> (k &&& 31) &&& 1) i = false := by
    intro i h1 h2
    rw [b_and, b_1 i h1, decide_eq_false h2, Bool.and_false]
  unfold bitF
  by_cases c : b.toInt.toNat.testBit n = true
  · rw [if_pos c, if_pos]
    apply b_ext
    intro i hi
    by_cases ci : i = 0
    · subst ci; rw [e0, c, b_1 0 (by omega)]; rfl
    · rw [er i hi ci, b_1 i hi, decide_eq_false ci]
  · rw [if_neg c, if_neg]
    intro e
    rw [e, b_1 0 (by omega)] at e0
    exact c (by rw [← e0]; rfl)
theorem bitF_01 (b k : Int32) : bitF b k = 0 ∨ bitF b k = 1 := by
  unfold bitF
  by_cases c : ((b >>> (k &&& 31)) &&& 1) = 1
  · rw [if_pos c]; exact Or.inr rfl
  · rw [if_neg c]; exact Or.inl rfl
theorem c_isBit (l : Launch) (D : va_G) (t : Nat → ClassId) (lo n : Nat) (f : Nat → va_E) (b k : Int32) : MetM l yX11_isBit cX11_isBit 2 (some .boolean) 0 D t lo n f [.int b, .int k] f (some (.int (bitF b k))) := by
  refine MetM.start (by decide +kernel) (Nat.le_of_ble_eq_true rfl) ?_
  intro p e s m below meth c X hH ls hl
  have hl : lv_has ls 2 [(0, .int b), (1, .int k)] := hl
  refine lv_iload_n X.1 X.2.1 (show decode cX11_isBit 0 = .ok (.iload_n 0, 1) by decide +kernel) rfl (lv_at hl 0 rfl) ?_
  refine lv_iload_n X.1 X.2.1 (show decode cX11_isBit 1 = .ok (.iload_n 1, 1) by decide +kernel) rfl (lv_at hl 1 rfl) ?_
  refine lv_ishr X.1 X.2.1 (show decode cX11_isBit 2 = .ok (.ishr, 1) by decide +kernel) ?_
  refine lv_iconst (v := 1) X.1 X.2.1 (show decode cX11_isBit 3 = .ok (.iconst 1, 1) by decide +kernel) (by decide) ?_
  refine lv_iand X.1 X.2.1 (show decode cX11_isBit 4 = .ok (.iand, 1) by decide +kernel) ?_
  refine lv_iconst (v := 1) X.1 X.2.1 (show decode cX11_isBit 5 = .ok (.iconst 1, 1) by decide +kernel) (by decide) ?_
  refine lv_icmp_ne (tgt := 13) X.1 X.2.1 (show decode cX11_isBit 6 = .ok (.if_icmp .ne 7, 3) by decide +kernel) (by decide) (fun q => ?_) (fun q => ?_)
  · refine lv_iconst (v := 0) X.1 X.2.1 (show decode cX11_isBit 13 = .ok (.iconst 0, 1) by decide +kernel) (by decide) ?_
    exact px_zret X hH (by unfold bitF; rw [if_neg q]) rfl (show decode cX11_isBit 14 = .ok (.ireturn, 1) by decide +kernel)
  · refine lv_iconst (v := 1) X.1 X.2.1 (show decode cX11_isBit 9 = .ok (.iconst 1, 1) by decide +kernel) (by decide) ?_
    refine lv_goto (tgt := 14) X.1 X.2.1 (show decode cX11_isBit 10 = .ok (.goto 4, 3) by decide +kernel) (by decide) ?_
    exact px_zret X hH (by unfold bitF; rw [if_pos q]) rfl (show decode cX11_isBit 14 = .ok (.ireturn, 1) by decide +kernel)
/-- the bit k of a number is 1 -/
def xbset (gi : List XI) (n : XN) (k : Nat) : List XI := match n.1 with
  | some g => (match gi[g]? with
    | some (l, h, r) => gi.set g (l, h, .inr (.inr (k, n.2)) :: r)
    | none => gi)
  | none => gi
def xbit1 (gi : List XI) (n : XN) (b : Int) (c : Nat) : List (List XI × XN) := match xcutR gi n (2 ^ c) b with
  | some g => [(xbset g n c, (none, 1))]
  | none => []
def xbit0 (gi : List XI) (n : XN) (a b : Int) (c : Nat) : List (List XI × XN) := if 2 ^ c ≤ a then (match xcutR gi n (2 ^ (c + 1)) b with
  | some g => [(g, (none, 0))]
  | none => []) else [(gi, (none, 0))]
def xbits (gi : List XI) (n k : XN) : List (List XI × XN) := match k with
  | (none, c) => (match xiv gi n with
    | some (a, b) => if 0 ≤ a ∧ 0 ≤ c ∧ c ≤ 30 then (match n with
      | (none, z) => [(gi, (none, if z.toNat.testBit c.toNat = true then 1 else 0))]
      | _ => xbit1 gi n b c.toNat ++ xbit0 gi n a b c.toNat) else [xmk gi 0 1 none]
    | none => [xmk gi 0 1 none])
  | _ => [xmk gi 0 1 none]
def stepG (kc : Nat) (ml : XL) (ins : Instr) (x : XC) : Option (List XC) := match ins with
  | .invokestatic i => match x with
    | (pc, gi, L, .inl (.inl k) :: .inl (.inl n) :: S, V) => match xml ml i with
      | some (_, 2, _, _) => if 1 ≤ kc ∧ (S.map xcat).sum ≤ 8 then some ((xbits gi n k).map (fun q => (pc + 3, q.1, L, .inl (.inl q.2) :: S, V))) else none
      | _ => none
    | _ => none
  | _ => none
theorem xbset_ok {Gs : List Int} {gi : List XI} {n : XN} {k : Nat} {x : Int} (hg : gok Gs gi) (hn : xval Gs n = some x) (h0 : 0 ≤ x) (hb : x.toNat.testBit k = true) : gok Gs (xbset gi n k) := by
  obtain ⟨g, c⟩ := n
  cases g with
  | none => exact hg
  | some g =>
    simp only [xbset]
    split
    · rename_i l h r he
      refine gok_set hg he (fun z hz => ?_)
      simp only [xval, hz, Option.map_some, Option.some.injEq] at hn
      simp only [xrel]
      rw [hn]
      exact ⟨h0, hb⟩
    · exact hg
theorem tb_ge {x n : Nat} (h : x.testBit n = true) : 2 ^ n ≤ x := by
  rcases Nat.lt_or_ge x (2 ^ n) with q | q
  · rw [Nat.testBit_lt_two_pow q] at h; cases h
  · exact q
theorem tb_up {x n : Nat} (h : ¬ x.testBit n = true) (h2 : 2 ^ n ≤ x) : 2 ^ (n + 1) ≤ x := by
  rcases Nat.lt_or_ge x (2 ^ (n + 1)) with q | q
  · exfalso
    apply h
    rw [Nat.testBit_eq_decide_div_mod_eq]
    have hp : 0 < 2 ^ n := Nat.two_pow_pos n
    have h3 : x / 2 ^ n = 1 := by
      rw [Nat.pow_succ] at q
      exact Nat.div_eq_of_lt_le (by omega) (by omega)
    rw [h3]
    rfl
  · exact q
theorem xbits_ok {Gs : List Int} {gi : List XI} {n k : XN} {b kk : Int32} (hg : gok Gs gi) (hn : xval Gs n = some b.toInt) (hk : xval Gs k = some kk.toInt) : ∃ q t, q ∈ xbits gi n k ∧ gok (Gs ++ t) q.1 ∧ xval (Gs ++ t) q.2 = some (bitF b kk).toInt := by
  have any : ∃ q t, q ∈ [xmk gi 0 1 none] ∧ gok (Gs ++ t) q.1 ∧ xval (Gs ++ t) q.2 = some (bitF b kk).toInt := by
    have h01 : 0 ≤ (bitF b kk).toInt ∧ (bitF b kk).toInt ≤ 1 := by
      rcases bitF_01 b kk with e | e
      · rw [e]; decide
      · rw [e]; decide
    obtain ⟨t, t1, t2⟩ := xmk_ok0 (lo := 0) (hi := 1) hg h01.1 h01.2
    exact ⟨_, t, List.mem_cons_self, t1, t2⟩
  unfold xbits
  split
  · rename_i c
    split
    · rename_i lo hi hx
      split
      · rename_i c1
        obtain ⟨c1, c2, c3⟩ := c1
        have hb := xiv_ok hg hx hn
        simp only [xval, Option.some.injEq] at hk
        have hbit := bitF_ok (b := b) (k := kk) (n := c.toNat) (by omega) (by omega) (by omega)
        have e1 : (1 : Int32).toInt = 1 := rfl
        have e0 : (0 : Int32).toInt = 0 := rfl
        have hp : ∀ m : Nat, ((2 : Int) ^ m) = ((2 ^ m : Nat) : Int) := fun m => by push_cast; rfl
        split
        · rename_i z
          simp only [xval, Option.some.injEq] at hn
          refine ⟨_, [], List.mem_cons_self, by simpa using hg, ?_⟩
          rw [hbit, ← hn]
          simp only [xval]
          split
          · rfl
          · rfl
        · by_cases ct : b.toInt.toNat.testBit c.toNat = true
          · rw [if_pos ct] at hbit
            have hge := tb_ge ct
            obtain ⟨g, g1, g2⟩ := xcutR_ok (lo := 2 ^ c.toNat) (hi := hi) hg hx hn (by rw [hp]; omega) hb.2
            refine ⟨(xbset g n c.toNat, (none, 1)), [], List.mem_append_left _ (by unfold xbit1; rw [g1]; exact List.mem_cons_self), ?_, ?_⟩
            · rw [List.append_nil]; exact xbset_ok g2 hn (by omega) ct
            · rw [hbit]; rfl
          · rw [if_neg ct] at hbit
            by_cases cl : 2 ^ c.toNat ≤ lo
            · have cl0 := cl
              rw [hp] at cl
              have hge := tb_up ct (by omega)
              obtain ⟨g, g1, g2⟩ := xcutR_ok (lo := 2 ^ (c.toNat + 1)) (hi := hi) hg hx hn (by rw [hp]; omega) hb.2
              refine ⟨(g, (none, 0)), [], List.mem_append_right _ (by unfold xbit0; rw [if_pos cl0, g1]; exact List.mem_cons_self), ?_, ?_⟩
              · rw [List.append_nil]; exact g2
              · rw [hbit]; rfl
            · refine ⟨(gi, (none, 0)), [], List.mem_append_right _ (by unfold xbit0; rw [if_neg cl]; exact List.mem_cons_self), ?_, ?_⟩
              · rw [List.append_nil]; exact hg
              · rw [hbit]; rfl
      · exact any
    · exact any
  · exact any
section XGG
variable {E : XE} {xt : XX} {D : va_G} {t : Nat → ClassId} {lo : Nat} {G0 : List Int} {f0 : Nat → va_E} {A : Nat → Prop}
variable {p : Program} {l : Launch} {e : Env} {R : Room} {s : State} {m : MethodId} {args : Array Value} {below : List Frame} {meth : Method} {c : Code} {H : Heap} {locs : List Loc} {cells slots : Nat} {Q : State → Prop}
variable {cc : ByteArray} {own : String} {nl : Nat} {ret : Option FieldType} {ls : Array Slot} {st : List Value} {x : XC} {xs : List XC} {ins : Instr} {pc : Nat}
theorem stepG_ok {kc : Nat} {ml : XL} {ys : List XY} (X : CX p s m args meth c own cc nl ret) (hml : MLok own ys ml) (hRk : kc ≤ R.frames ∧ 60 * kc ≤ R.locals) (hRc : cells ≤ R.cells ∧ slots ≤ R.slots) (hd : decode cc x.1 = .ok (ins, xlen ins)) (h : stepG kc ml ins x = some xs) (hs : SAT E xt D t lo G0 f0 A s nl x H locs ls st)
    (kk : ∀ y ∈ xs, GO E xt D t lo G0 f0 A nl p l e R s m args below meth c cells slots Q y) : W p l e R s m args below meth c H locs cells slots Q (F0 m x.1 ls st) := by
  unfold stepG at h
  split at h
  · rename_i i
    split at h
    · rename_i pc gi L k n S V
      split at h
      · rename_i no na ci hx
        split at h
        · rename_i c1
          simp only [Option.some.injEq] at h
          subst h
          obtain ⟨Y, hY, -, -, -, mm⟩ := hml i no 2 na ci hx
          obtain ⟨m1, m2, m3, m4, m5, m6⟩ := mm (by decide)
          rw [if_neg (by decide), if_pos rfl] at m6
          obtain ⟨m6, rfl, y1, y2, y3, y4⟩ := m6
          rw [y1, y2, y3, y4] at m2
          rw [y1] at m1 m3 m4 m6
          obtain ⟨Gs, f, lv, ⟨r0, hr0⟩, hg, hl, hL, hS, hV, hT, hZ, hH⟩ := hs
          obtain ⟨v1, st1, rfl, ⟨i1, rfl, w1⟩, hS1⟩ := SR_cons hS
          obtain ⟨v2, st2, rfl, ⟨i2, rfl, w2⟩, hS2⟩ := SR_cons hS1
          obtain ⟨q, tq, q1, q2, q3⟩ := xbits_ok hg w2 w1
          have hcat : (st2.map fun v => v.category).sum ≤ 8 := by rw [SR_cat hS2]; exact c1.2
          refine px_callS (As := [.int i2, .int i1]) (rest := st2) X hH (c_isBit l D t lo E.2.1.length f i2 i1) m1 m6 m3 m2 m4 (by omega) hRc hl.1 rfl rfl hcat hd (fun H1 locs1 hH1 _ => ?_)
          exact kk _ (List.mem_map.mpr ⟨q, q1, rfl⟩) _ _ _ _ ⟨Gs ++ tq, f, lv, ⟨r0 ++ tq, by rw [hr0, List.append_assoc]⟩, q2, hl, LR_mono hL, ⟨⟨_, rfl, q3⟩, SR_mono hS2⟩, VOK_mono hV, hT, hZ, hH1⟩
        · cases h
      · cases h
    · cases h
  · cases h
end XGG
