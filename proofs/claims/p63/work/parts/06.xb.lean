/-! more operations on abstract numbers; comparing them -/
theorem n_of0 {x : Int32} (h : 0 ≤ x.toInt) : 2 * x.toBitVec.toNat < 2 ^ 32 ∧ x.toInt = (x.toBitVec.toNat : Int) := by
  have e : x.toInt = x.toBitVec.toInt := rfl
  rw [e, BitVec.toInt_eq_toNat_cond] at h ⊢
  by_cases c : 2 * x.toBitVec.toNat < 2 ^ 32
  · rw [if_pos c]; exact ⟨c, rfl⟩
  · rw [if_neg c] at h
    have := x.toBitVec.isLt
    omega
theorem n_to0 {x : Int32} (h : 2 * x.toBitVec.toNat < 2 ^ 32) : x.toInt = (x.toBitVec.toNat : Int) := by
  have e : x.toInt = x.toBitVec.toInt := rfl
  rw [e, BitVec.toInt_eq_toNat_cond, if_pos h]
theorem and_bnd {x y : Int32} (h : 0 ≤ x.toInt) : 0 ≤ (x &&& y).toInt ∧ (x &&& y).toInt ≤ x.toInt := by
  obtain ⟨h1, h2⟩ := n_of0 h
  have e : (x &&& y).toBitVec.toNat = x.toBitVec.toNat &&& y.toBitVec.toNat := by rw [Int32.toBitVec_and, BitVec.toNat_and]
  have le : (x &&& y).toBitVec.toNat ≤ x.toBitVec.toNat := by rw [e]; exact Nat.and_le_left
  have := n_to0 (x := x &&& y) (by omega)
  omega
theorem and_bnd2 {x y : Int32} (h : 0 ≤ y.toInt) : 0 ≤ (x &&& y).toInt ∧ (x &&& y).toInt ≤ y.toInt := by
  rw [Int32.and_comm]; exact and_bnd h
theorem or_bnd {x y : Int32} {k : Nat} (hk : k ≤ 31) (h1 : 0 ≤ x.toInt) (h2 : x.toInt < 2 ^ k) (h3 : 0 ≤ y.toInt) (h4 : y.toInt < 2 ^ k) : 0 ≤ (x ||| y).toInt ∧ (x ||| y).toInt ≤ 2 ^ k - 1 := by
  obtain ⟨a1, a2⟩ := n_of0 h1
  obtain ⟨b1, b2⟩ := n_of0 h3
  have hp : (2 : Nat) ^ k ≤ 2 ^ 31 := Nat.pow_le_pow_right (by decide) hk
  have e : (x ||| y).toBitVec.toNat = x.toBitVec.toNat ||| y.toBitVec.toNat := by rw [Int32.toBitVec_or, BitVec.toNat_or]
  have lt : (x ||| y).toBitVec.toNat < 2 ^ k := by
    rw [e]
    refine Nat.or_lt_two_pow ?_ ?_
    · have : ((x.toBitVec.toNat : Nat) : Int) < ((2 ^ k : Nat) : Int) := by rw [← a2]; simpa using h2
      omega
    · have : ((y.toBitVec.toNat : Nat) : Int) < ((2 ^ k : Nat) : Int) := by rw [← b2]; simpa using h4
      omega
  have := n_to0 (x := x ||| y) (by omega)
  have c : (((2 ^ k : Nat)) : Int) = (2 : Int) ^ k := by simp
  omega
/-- a bit that is known to be 1 -/
def xbit (gi : List XI) (a : XN) (k : Nat) : Bool := match a.1 with
  | some g => (match gi[g]? with
    | some (_, _, r) => r.any (fun u => match u with
      | .inr (.inr (k', c)) => k' == k && c == a.2
      | _ => false)
    | none => false)
  | none => false
theorem xbit_ok {Gs : List Int} {gi : List XI} {a : XN} {k : Nat} {x : Int} (h : xbit gi a k = true) (hg : gok Gs gi) (ha : xval Gs a = some x) : 0 ≤ x ∧ x.toNat.testBit k = true := by
  obtain ⟨g, c⟩ := a
  unfold xbit at h
  split at h
  · rename_i g' hgg
    simp only at hgg
    subst hgg
    split at h
    · rename_i l u r he
      obtain ⟨w, w1, w2⟩ := List.any_eq_true.mp h
      split at w2
      · rename_i k' c'
        simp only [Bool.and_eq_true, beq_iff_eq] at w2
        obtain ⟨rfl, rfl⟩ := w2
        simp only [xval] at ha
        cases hz : Gs[g']? with
        | none => rw [hz] at ha; cases ha
        | some z =>
          rw [hz] at ha
          simp only [Option.map_some, Option.some.injEq] at ha
          have := (hg.2 g' l u r z he hz).2.2 _ w1
          rw [← ha]
          exact this
      · cases w2
    · cases h
  · cases h
theorem clr_bv : ∀ k : Fin 31, (Int32.ofInt (-1 - 2 ^ (k : Nat))).toBitVec = ~~~ BitVec.twoPow 32 (k : Nat) := by decide +kernel
theorem and_clr {x y : Int32} {k : Nat} (hk : k ≤ 30) (hx : 0 ≤ x.toInt) (hb : x.toInt.toNat.testBit k = true) (hy : y.toInt = -1 - 2 ^ k) : (x &&& y).toInt = x.toInt - 2 ^ k := by
  obtain ⟨x1, x2⟩ := n_of0 hx
  have hy2 : y.toBitVec = ~~~ BitVec.twoPow 32 k := by
    have := clr_bv ⟨k, by omega⟩
    rw [← this, i32_of hy]
  have hbit : x.toBitVec.getLsbD k = true := by
    rw [x2, Int.toNat_natCast] at hb
    exact hb
  have hz : (x &&& y).toBitVec ||| BitVec.twoPow 32 k = x.toBitVec := by
    apply BitVec.eq_of_getLsbD_eq
    intro i hi
    rw [Int32.toBitVec_and, hy2]
    simp only [BitVec.getLsbD_or, BitVec.getLsbD_and, BitVec.getLsbD_not, BitVec.getLsbD_twoPow]
    by_cases c : k = i
    · subst c
      simp [hbit, hi]
    · simp [c, hi]
  have hd : (x &&& y).toBitVec &&& BitVec.twoPow 32 k = 0#32 := by
    apply BitVec.eq_of_getLsbD_eq
    intro i hi
    rw [Int32.toBitVec_and, hy2]
    simp only [BitVec.getLsbD_and, BitVec.getLsbD_not, BitVec.getLsbD_twoPow, BitVec.getLsbD_zero]
    by_cases c : k = i
    · subst c
      simp
    · simp [c]
  rw [← BitVec.add_eq_or_of_and_eq_zero _ _ hd] at hz
  have w1 := and_bnd (x := x) (y := y) hx
  obtain ⟨z1, z2⟩ := n_of0 w1.1
  have hp : (2 : Nat) ^ k ≤ 2 ^ 30 := Nat.pow_le_pow_right (by decide) hk
  have h3 := congrArg BitVec.toNat hz
  rw [BitVec.toNat_add, BitVec.toNat_twoPow, Nat.mod_eq_of_lt (a := 2 ^ k) (by omega), Nat.mod_eq_of_lt (by omega)] at h3
  rw [x2, z2, ← h3]
  push_cast
  omega
/-- bounds of a conjunction: a number that is not negative bounds it -/
def xand (gi : List XI) (a b : XN) : Option (List XI × XN) := match xiv gi a, xiv gi b with
  | some (la, ha), some (lb, hb) =>
    if b.1 = none ∧ b.2 = -1 - 2 ^ (-1 - b.2).toNat.log2 ∧ (-1 - b.2).toNat.log2 ≤ 30 ∧ xbit gi a (-1 - b.2).toNat.log2 = true then some (gi, (a.1, a.2 - 2 ^ (-1 - b.2).toNat.log2))
    else if 0 ≤ lb ∧ a.1 = b.1 ∧ a.1 ≠ none ∧ b.2 < a.2 then some (xmk gi 0 (min ha hb) (some (.inl (.inl b))))
    else if 0 ≤ la ∧ a.1 ≠ none then some (xmk gi 0 (if 0 ≤ lb then min ha hb else ha) (some (.inl (.inl a))))
    else if 0 ≤ lb then some (xmk gi 0 (if 0 ≤ la then min ha hb else hb) (some (.inl (.inl b))))
    else if 0 ≤ la then some (xmk gi 0 ha none)
    else some (xmk gi lo32 hi32 none)
  | _, _ => none
theorem xval_same0 {Gs : List Int} {g : Option Nat} {c d x y : Int} (h1 : xval Gs (g, c) = some x) (h2 : xval Gs (g, d) = some y) : x - c = y - d := by
  cases g with
  | none => simp only [xval, Option.some.injEq] at h1 h2; omega
  | some g =>
    simp only [xval] at h1 h2
    cases hz : Gs[g]? with
    | none => rw [hz] at h1; cases h1
    | some z =>
      rw [hz] at h1 h2
      simp only [Option.map_some, Option.some.injEq] at h1 h2
      omega
theorem xand_ok : Op32 (· &&& ·) xand := by
  intro gi gi' a b r Gs x y ho hg ha hb
  unfold xand at ho
  cases h1 : xiv gi a with
  | none => rw [h1] at ho; cases ho
  | some p =>
    obtain ⟨la, ua⟩ := p
    cases h2 : xiv gi b with
    | none => rw [h1, h2] at ho; cases ho
    | some q =>
      obtain ⟨lb, ub⟩ := q
      rw [h1, h2] at ho
      have q1 := xiv_ok hg h1 ha
      have q2 := xiv_ok hg h2 hb
      simp only at ho
      by_cases c8 : b.1 = none ∧ b.2 = -1 - 2 ^ (-1 - b.2).toNat.log2 ∧ (-1 - b.2).toNat.log2 ≤ 30 ∧ xbit gi a (-1 - b.2).toNat.log2 = true
      · rw [if_pos c8] at ho
        simp only [Option.some.injEq, Prod.mk.injEq] at ho
        obtain ⟨rfl, rfl⟩ := ho
        obtain ⟨d1, d2, d3, d4⟩ := c8
        obtain ⟨u1, u2⟩ := xbit_ok d4 hg ha
        obtain ⟨gb, cb⟩ := b
        simp only at d1
        subst d1
        simp only [xval, Option.some.injEq] at hb
        refine ⟨[], by simpa using hg, ?_⟩
        rw [List.append_nil, and_clr d3 u1 u2 (by rw [← hb]; exact d2)]
        have := xval_add (c := - (2 : Int) ^ (-1 - cb).toNat.log2) ha
        rw [Int.sub_eq_add_neg, Int.sub_eq_add_neg]
        exact this
      rw [if_neg c8] at ho
      by_cases c9 : 0 ≤ lb ∧ a.1 = b.1 ∧ a.1 ≠ none ∧ b.2 < a.2
      · rw [if_pos c9] at ho
        simp only [Option.some.injEq] at ho
        have hlt : y.toInt ≤ x.toInt := by
          obtain ⟨ga, ca⟩ := a
          obtain ⟨gb, cb⟩ := b
          obtain ⟨d1, d2, d3, d4⟩ := c9
          simp only at d2
          subst d2
          have := xval_same0 ha hb
          simp only at d4
          omega
        have w1 := and_bnd (x := x) (y := y) (by omega)
        have w2 := and_bnd2 (x := x) (y := y) (by omega)
        obtain ⟨t, t1, t2⟩ := xmk_ok (lo := 0) (hi := min ua ub) (r := some (.inl (.inl b))) hg w1.1 (by omega) (fun u hu => by cases hu; exact ⟨_, hb, w2.2⟩)
        rw [ho] at t1 t2
        exact ⟨t, t1, t2⟩
      rw [if_neg c9] at ho
      by_cases c1 : 0 ≤ la ∧ a.1 ≠ none
      · rw [if_pos c1] at ho
        simp only [Option.some.injEq] at ho
        have w1 := and_bnd (x := x) (y := y) (by omega)
        have le : (x &&& y).toInt ≤ (if 0 ≤ lb then min ua ub else ua) := by
          by_cases c : 0 ≤ lb
          · have w2 := and_bnd2 (x := x) (y := y) (by omega)
            rw [if_pos c]; omega
          · rw [if_neg c]; omega
        obtain ⟨t, t1, t2⟩ := xmk_ok (r := some (.inl (.inl a))) hg w1.1 le (fun u hu => by cases hu; exact ⟨_, ha, w1.2⟩)
        rw [ho] at t1 t2
        exact ⟨t, t1, t2⟩
      · rw [if_neg c1] at ho
        by_cases c2 : 0 ≤ lb
        · rw [if_pos c2] at ho
          simp only [Option.some.injEq] at ho
          have w2 := and_bnd2 (x := x) (y := y) (by omega)
          have le : (x &&& y).toInt ≤ (if 0 ≤ la then min ua ub else ub) := by
            by_cases c : 0 ≤ la
            · have w1 := and_bnd (x := x) (y := y) (by omega)
              rw [if_pos c]; omega
            · rw [if_neg c]; omega
          obtain ⟨t, t1, t2⟩ := xmk_ok (r := some (.inl (.inl b))) hg w2.1 le (fun u hu => by cases hu; exact ⟨_, hb, w2.2⟩)
          rw [ho] at t1 t2
          exact ⟨t, t1, t2⟩
        · rw [if_neg c2] at ho
          by_cases c3 : 0 ≤ la
          · rw [if_pos c3] at ho
            simp only [Option.some.injEq] at ho
            have w1 := and_bnd (x := x) (y := y) (by omega)
            obtain ⟨t, t1, t2⟩ := xmk_ok0 (lo := 0) (hi := ua) hg w1.1 (by omega)
            rw [ho] at t1 t2
            exact ⟨t, t1, t2⟩
          · rw [if_neg c3] at ho
            simp only [Option.some.injEq] at ho
            have := i32_b (x &&& y)
            obtain ⟨t, t1, t2⟩ := xmk_ok0 (lo := lo32) (hi := hi32) hg this.1 this.2
            rw [ho] at t1 t2
            exact ⟨t, t1, t2⟩
def xorb (p q : Int × Int) : Option (Int × Int) := if 0 ≤ p.1 ∧ 0 ≤ q.1 ∧ (max p.2 q.2).toNat.log2 + 1 ≤ 31 then some (0, 2 ^ ((max p.2 q.2).toNat.log2 + 1) - 1) else none
def xor_ : List XI → XN → XN → Option (List XI × XN) := xby lo32 hi32 xorb
theorem xor__ok : Op32 (· ||| ·) xor_ := by
  refine xby_ok ?_
  intro la ha lb hb u v x y h q1 q2 q3 q4
  unfold xorb at h
  by_cases c : 0 ≤ la ∧ 0 ≤ lb ∧ (max ha hb).toNat.log2 + 1 ≤ 31
  · rw [if_pos c] at h
    simp only [Option.some.injEq, Prod.mk.injEq] at h
    obtain ⟨rfl, rfl⟩ := h
    have hm := Nat.lt_log2_self (n := (max ha hb).toNat)
    have hm2 : ((max ha hb).toNat : Int) < (2 : Int) ^ ((max ha hb).toNat.log2 + 1) := by
      have : (((max ha hb).toNat : Nat) : Int) < (((2 ^ ((max ha hb).toNat.log2 + 1) : Nat)) : Int) := by exact_mod_cast hm
      simpa using this
    exact or_bnd c.2.2 (by omega) (by omega) (by omega) (by omega)
  · dsimp only at h
    rw [if_neg c] at h; cases h
def xany (gi : List XI) (_ _ : XN) : Option (List XI × XN) := some (xmk gi lo32 hi32 none)
theorem xany_ok (F : Int32 → Int32 → Int32) : Op32 F xany := by
  intro gi gi' a b r Gs x y ho hg ha hb
  simp only [xany, Option.some.injEq] at ho
  have := i32_b (F x y)
  obtain ⟨t, t1, t2⟩ := xmk_ok0 (lo := lo32) (hi := hi32) hg this.1 this.2
  rw [ho] at t1 t2
  exact ⟨t, t1, t2⟩
def xanyL (gi : List XI) (_ _ : XN) : Option (List XI × XN) := some (xmk gi lo64 hi64 none)
theorem xanyL_ok (F : Int64 → Int64 → Int64) : Op64 F xanyL := by
  intro gi gi' a b r Gs x y ho hg ha hb
  simp only [xanyL, Option.some.injEq] at ho
  have := i64_b (F x y)
  obtain ⟨t, t1, t2⟩ := xmk_ok0 (lo := lo64) (hi := hi64) hg this.1 this.2
  rw [ho] at t1 t2
  exact ⟨t, t1, t2⟩
theorem shr_bnd (x y : Int32) : min x.toInt 0 ≤ (x >>> y).toInt ∧ (x >>> y).toInt ≤ max x.toInt 0 := by
  have e : (x >>> y).toInt = x.toInt >>> (y.toBitVec.smod 32).toNat := by
    show (x >>> y).toBitVec.toInt = _
    rw [Int32.toBitVec_shiftRight, BitVec.sshiftRight_eq', BitVec.toInt_sshiftRight]
    rfl
  rw [e, Int.shiftRight_eq_div_pow]
  generalize (y.toBitVec.smod 32).toNat = k
  have hp : (0 : Int) < ((2 ^ k : Nat) : Int) := by exact_mod_cast Nat.two_pow_pos k
  have hp1 : (1 : Int) ≤ ((2 ^ k : Nat) : Int) := by omega
  rcases Int.le_total 0 x.toInt with h | h
  · have h1 := Int.ediv_nonneg h (Int.le_of_lt hp)
    have h2 := Int.ediv_le_self (a := x.toInt) ((2 ^ k : Nat) : Int) h
    omega
  · have h1 : x.toInt ≤ x.toInt / ((2 ^ k : Nat) : Int) := by
      rw [Int.le_ediv_iff_mul_le hp]
      have := Int.mul_le_mul_of_nonpos_left (a := x.toInt) h hp1
      omega
    have h2 : x.toInt / ((2 ^ k : Nat) : Int) ≤ 0 := by
      have := Int.ediv_le_ediv (c := ((2 ^ k : Nat) : Int)) hp h
      simpa using this
    omega
def xshr : List XI → XN → XN → Option (List XI × XN) := xby lo32 hi32 (fun p _ => some (min p.1 0, max p.2 0))
theorem xshr_ok : Op32 (fun x y => x >>> (y &&& 31)) xshr := by
  refine xby_ok ?_
  intro la ha lb hb u v x y h q1 q2 q3 q4
  simp only [Option.some.injEq, Prod.mk.injEq] at h
  obtain ⟨rfl, rfl⟩ := h
  have := shr_bnd x (y &&& 31)
  omega
theorem shl1 : ∀ k : Fin 31, ((1 : Int32) <<< (Int32.ofInt ((k : Nat) : Int) &&& 31)).toInt = 2 ^ (k : Nat) := by decide +kernel
def xshlb (p q : Int × Int) : Option (Int × Int) := if p = (1, 1) ∧ 0 ≤ q.1 ∧ q.2 ≤ 30 then some (1, 2 ^ q.2.toNat) else none
def xshl : List XI → XN → XN → Option (List XI × XN) := xby lo32 hi32 xshlb
theorem xshl_ok : Op32 (fun x y => x <<< (y &&& 31)) xshl := by
  refine xby_ok ?_
  intro la ha lb hb u v x y h q1 q2 q3 q4
  unfold xshlb at h
  by_cases c : (la, ha) = ((1 : Int), (1 : Int)) ∧ 0 ≤ lb ∧ hb ≤ 30
  · rw [if_pos c] at h
    simp only [Option.some.injEq, Prod.mk.injEq] at h
    obtain ⟨rfl, rfl⟩ := h
    simp only [Prod.mk.injEq] at c
    have hx : x = 1 := Int32.toInt_inj.mp (by rw [Int32.toInt_one]; omega)
    subst hx
    have hy : y = Int32.ofInt ((y.toInt.toNat : Nat) : Int) := by
      rw [Int.toNat_of_nonneg (by omega), Int32.ofInt_toInt]
    have hk := shl1 ⟨y.toInt.toNat, by omega⟩
    simp only at hk
    rw [hy, hk]
    have h1 : (1 : Nat) ≤ 2 ^ y.toInt.toNat := Nat.two_pow_pos _
    have h2 : (2 : Nat) ^ y.toInt.toNat ≤ 2 ^ hb.toNat := Nat.pow_le_pow_right (by decide) (by omega)
    have c1 : (((2 ^ y.toInt.toNat : Nat)) : Int) = (2 : Int) ^ y.toInt.toNat := by simp
    have c2 : (((2 ^ hb.toNat : Nat)) : Int) = (2 : Int) ^ hb.toNat := by simp
    omega
  · rw [if_neg c] at h; cases h
theorem tdiv_b {a b : Int} (h : 0 < b) : min a 0 ≤ a.tdiv b ∧ a.tdiv b ≤ max a 0 := by
  rcases Int.le_total 0 a with q | q
  · have h1 := Int.tdiv_nonneg q (Int.le_of_lt h)
    have h2 := Int.tdiv_le_self b q
    omega
  · have h1 := Int.tdiv_nonneg (a := -a) (by omega) (Int.le_of_lt h)
    have h2 := Int.tdiv_le_self (a := -a) b (by omega)
    rw [Int.neg_tdiv] at h1 h2
    omega
/-- bounds of a quotient; the divisor is above 0 -/
def xdivb (p q : Int × Int) : Option (Int × Int) := if 0 < q.1 then (if 0 ≤ p.1 then some (0, p.2 / q.1) else some (min p.1 0, max p.2 0)) else none
theorem div_b {la ha lb hb a b u v : Int} (h : xdivb (la, ha) (lb, hb) = some (u, v)) (q1 : la ≤ a) (q2 : a ≤ ha) (q3 : lb ≤ b) (q4 : b ≤ hb) : u ≤ a.tdiv b ∧ a.tdiv b ≤ v ∧ min la 0 ≤ u ∧ v ≤ max ha 0 ∧ 0 < b := by
  unfold xdivb at h
  by_cases c : 0 < lb
  · rw [if_pos c] at h
    have hb0 : 0 < b := by omega
    have h1 := tdiv_b (a := a) hb0
    by_cases c2 : 0 ≤ la
    · rw [if_pos c2] at h
      simp only [Option.some.injEq, Prod.mk.injEq] at h
      obtain ⟨rfl, rfl⟩ := h
      have e : a.tdiv b = a / b := Int.tdiv_eq_ediv_of_nonneg (by omega)
      have e1 : a / b ≤ a / lb := by
        rw [Int.le_ediv_iff_mul_le c]
        have h3 : a / b * b ≤ a := Int.ediv_mul_le a (by omega)
        have h4 : 0 ≤ a / b := Int.ediv_nonneg (by omega) (by omega)
        have h5 := Int.mul_le_mul_of_nonneg_left q3 h4
        omega
      have e2 := Int.ediv_le_ediv (c := lb) c q2
      have e3 := Int.ediv_le_self (a := ha) lb (by omega)
      omega
    · rw [if_neg c2] at h
      simp only [Option.some.injEq, Prod.mk.injEq] at h
      obtain ⟨rfl, rfl⟩ := h
      omega
  · rw [if_neg c] at h; cases h
def xnz (gi : List XI) (b : XN) : Bool := match xiv gi b with
  | some (l, h) => decide (0 < l) || decide (h < 0)
  | none => false
theorem xnz_ok {gi : List XI} {b : XN} {Gs : List Int} {y : Int} (h : xnz gi b = true) (hg : gok Gs gi) (hb : xval Gs b = some y) : y ≠ 0 := by
  unfold xnz at h
  cases h1 : xiv gi b with
  | none => rw [h1] at h; cases h
  | some p =>
    obtain ⟨l, u⟩ := p
    rw [h1] at h
    have := xiv_ok hg h1 hb
    simp at h
    omega
def xdiv : List XI → XN → XN → Option (List XI × XN) := xby lo32 hi32 xdivb
theorem xdiv_ok : Op32 (· / ·) xdiv := by
  refine xby_ok ?_
  intro la ha lb hb u v x y h q1 q2 q3 q4
  have := div_b h q1 q2 q3 q4
  have b1 := i32_b x
  have h1 := tdiv_b (a := x.toInt) this.2.2.2.2
  have z0 : lo32 ≤ 0 ∧ 0 ≤ hi32 ∧ lo64 ≤ 0 ∧ 0 ≤ hi64 := by decide
  rw [Int32.toInt_div, bm32 (by omega) (by omega)]
  omega
def xdivL : List XI → XN → XN → Option (List XI × XN) := xby lo64 hi64 xdivb
theorem xdivL_ok : Op64 (· / ·) xdivL := by
  refine xbyL_ok ?_
  intro la ha lb hb u v x y h q1 q2 q3 q4
  have := div_b h q1 q2 q3 q4
  have b1 := i64_b x
  have h1 := tdiv_b (a := x.toInt) this.2.2.2.2
  have z0 : lo32 ≤ 0 ∧ 0 ≤ hi32 ∧ lo64 ≤ 0 ∧ 0 ≤ hi64 := by decide
  rw [Int64.toInt_div, bm64 (by omega) (by omega)]
  omega
def xremb (p q : Int × Int) : Option (Int × Int) := if 0 < q.1 then (if 0 ≤ p.1 then some (0, min p.2 (q.2 - 1)) else some (- (q.2 - 1), q.2 - 1)) else none
theorem rem_b {la ha lb hb a b u v : Int} (h : xremb (la, ha) (lb, hb) = some (u, v)) (q1 : la ≤ a) (q2 : a ≤ ha) (q3 : lb ≤ b) (q4 : b ≤ hb) : u ≤ a.tmod b ∧ a.tmod b ≤ v ∧ 0 < b := by
  unfold xremb at h
  by_cases c : 0 < lb
  · rw [if_pos c] at h
    have hb0 : 0 < b := by omega
    have h1 := Int.tmod_lt_of_pos a hb0
    have h2 := Int.lt_tmod_of_pos a hb0
    by_cases c2 : 0 ≤ la
    · rw [if_pos c2] at h
      simp only [Option.some.injEq, Prod.mk.injEq] at h
      obtain ⟨rfl, rfl⟩ := h
      have e : a.tmod b = a % b := Int.tmod_eq_emod_of_nonneg (by omega)
      have e1 := Int.emod_nonneg a (b := b) (by omega)
      have e2 : a % b ≤ a := by
        have d1 := Int.emod_def a b
        have d2 := Int.mul_nonneg (a := b) (b := a / b) (by omega) (Int.ediv_nonneg (by omega) (by omega))
        omega
      omega
    · rw [if_neg c2] at h
      simp only [Option.some.injEq, Prod.mk.injEq] at h
      obtain ⟨rfl, rfl⟩ := h
      omega
  · rw [if_neg c] at h; cases h
def xrem : List XI → XN → XN → Option (List XI × XN) := xby lo32 hi32 xremb
theorem xrem_ok : Op32 (fun x y => x - x / y * y) xrem := by
  refine xby_ok ?_
  intro la ha lb hb u v x y h q1 q2 q3 q4
  have := rem_b h q1 q2 q3 q4
  have b1 := i32_b x
  have b2 := i32_b y
  have h1 := tdiv_b (a := x.toInt) this.2.2
  have z0 : lo32 ≤ 0 ∧ 0 ≤ hi32 ∧ lo64 ≤ 0 ∧ 0 ≤ hi64 := by decide
  have z1 : lo32 = -2147483648 ∧ hi32 = 2147483647 := ⟨rfl, rfl⟩
  have e := Int.mul_tdiv_add_tmod x.toInt y.toInt
  have m1 := Int.tmod_lt_of_pos x.toInt this.2.2
  have m2 := Int.lt_tmod_of_pos x.toInt this.2.2
  rw [Int32.toInt_sub, Int32.toInt_mul, Int32.toInt_div, bm32 (z := x.toInt.tdiv y.toInt) (by omega) (by omega)]
  rw [Int.mul_comm] at e
  have s1 : Int.natAbs x.toInt = Int.natAbs x.toInt := rfl
  have p1 : x.toInt - (x.toInt.tdiv y.toInt) * y.toInt = x.toInt.tmod y.toInt := by omega
  rw [Int.sub_bmod_bmod, p1, bm32 (by omega) (by omega)]
  exact ⟨this.1, this.2.1⟩
/-! operations of one number -/
def Un32 (F : Int32 → Int32) (op : List XI → XN → Option (List XI × XN)) : Prop := ∀ (gi gi' : List XI) (a r : XN) (Gs : List Int) (x : Int32), op gi a = some (gi', r) → gok Gs gi → xval Gs a = some x.toInt → ∃ t, gok (Gs ++ t) gi' ∧ xval (Gs ++ t) r = some (F x).toInt
/-- a cut to a smaller width: the number itself, if it lies there; else anywhere there -/
def xnar (lo hi : Int) (gi : List XI) (a : XN) : Option (List XI × XN) := match xiv gi a with
  | some (l, h) => if lo ≤ l ∧ h ≤ hi then some (gi, a) else some (xmk gi lo hi none)
  | none => none
theorem xnar_ok {lo hi : Int} {gi gi' : List XI} {a r : XN} {Gs : List Int} {x z : Int} (ho : xnar lo hi gi a = some (gi', r)) (hg : gok Gs gi) (ha : xval Gs a = some x) (hz : lo ≤ z ∧ z ≤ hi) (hs : lo ≤ x → x ≤ hi → z = x) : ∃ t, gok (Gs ++ t) gi' ∧ xval (Gs ++ t) r = some z := by
  unfold xnar at ho
  cases h1 : xiv gi a with
  | none => rw [h1] at ho; cases ho
  | some p =>
    obtain ⟨l, h⟩ := p
    rw [h1] at ho
    have q := xiv_ok hg h1 ha
    simp only at ho
    by_cases c : lo ≤ l ∧ h ≤ hi
    · rw [if_pos c] at ho
      simp only [Option.some.injEq, Prod.mk.injEq] at ho
      obtain ⟨rfl, rfl⟩ := ho
      exact ⟨[], by simpa using hg, by rw [hs (by omega) (by omega)]; simpa using ha⟩
    · rw [if_neg c] at ho
      simp only [Option.some.injEq] at ho
      obtain ⟨t, t1, t2⟩ := xmk_ok0 hg hz.1 hz.2
      rw [ho] at t1 t2
      exact ⟨t, t1, t2⟩
theorem i2b_ok : Un32 (fun x => x.toInt8.toInt32) (xnar (-128) 127) := by
  intro gi gi' a r Gs x ho hg ha
  refine xnar_ok ho hg ha ?_ ?_
  · have h1 := x.toInt8.le_toInt
    have h2 := x.toInt8.toInt_lt
    rw [Int8.toInt_toInt32]
    omega
  · intro h1 h2
    rw [Int8.toInt_toInt32, Int32.toInt_toInt8]
    exact Int.bmod_eq_of_le (by omega) (by omega)
theorem i2s_ok : Un32 (fun x => x.toInt16.toInt32) (xnar (-32768) 32767) := by
  intro gi gi' a r Gs x ho hg ha
  refine xnar_ok ho hg ha ?_ ?_
  · have h1 := x.toInt16.le_toInt
    have h2 := x.toInt16.toInt_lt
    rw [Int16.toInt_toInt32]
    omega
  · intro h1 h2
    rw [Int16.toInt_toInt32, Int32.toInt_toInt16]
    exact Int.bmod_eq_of_le (by omega) (by omega)
def xneg (gi : List XI) (a : XN) : Option (List XI × XN) := match xiv gi a with
  | some (l, h) => if lo32 < l then some (xmk gi (-h) (-l) none) else some (xmk gi lo32 hi32 none)
  | none => none
theorem xneg_ok : Un32 (fun x => -x) xneg := by
  intro gi gi' a r Gs x ho hg ha
  unfold xneg at ho
  cases h1 : xiv gi a with
  | none => rw [h1] at ho; cases ho
  | some p =>
    obtain ⟨l, h⟩ := p
    rw [h1] at ho
    have q := xiv_ok hg h1 ha
    have bx := i32_b x
    have z1 : lo32 = -2147483648 ∧ hi32 = 2147483647 := ⟨rfl, rfl⟩
    simp only at ho
    by_cases c : lo32 < l
    · rw [if_pos c] at ho
      simp only [Option.some.injEq] at ho
      have e : (-x).toInt = - x.toInt := by rw [Int32.toInt_neg, bm32 (by omega) (by omega)]
      obtain ⟨t, t1, t2⟩ := xmk_ok0 (z := (-x).toInt) (lo := -h) (hi := -l) hg (by omega) (by omega)
      rw [ho] at t1 t2
      exact ⟨t, t1, t2⟩
    · rw [if_neg c] at ho
      simp only [Option.some.injEq] at ho
      have := i32_b (-x)
      obtain ⟨t, t1, t2⟩ := xmk_ok0 (lo := lo32) (hi := hi32) hg this.1 this.2
      rw [ho] at t1 t2
      exact ⟨t, t1, t2⟩
theorem l2i_ok {gi gi' : List XI} {a r : XN} {Gs : List Int} {x : Int64} (ho : xnar lo32 hi32 gi a = some (gi', r)) (hg : gok Gs gi) (ha : xval Gs a = some x.toInt) : ∃ t, gok (Gs ++ t) gi' ∧ xval (Gs ++ t) r = some x.toInt32.toInt :=
  xnar_ok ho hg ha (i32_b _) (fun h1 h2 => by rw [Int64.toInt_toInt32]; exact bm32 h1 h2)
/-! branches: what a comparison tells; none: it can't be -/
theorem xiv_some {Gs : List Int} {gi : List XI} {n : XN} {z : Int} (h : gok Gs gi) (hv : xval Gs n = some z) : ∃ a b, xiv gi n = some (a, b) ∧ a ≤ z ∧ z ≤ b := by
  have key : ∃ a b, xiv gi n = some (a, b) := by
    obtain ⟨g, c⟩ := n
    cases g with
    | none => exact ⟨_, _, rfl⟩
    | some g =>
      simp only [xval] at hv
      cases hz : Gs[g]? with
      | none => rw [hz] at hv; cases hv
      | some y =>
        have hlt : g < gi.length := by rw [← h.1]; exact (List.getElem?_eq_some_iff.mp hz).1
        simp only [xiv]
        rw [List.getElem?_eq_getElem hlt]
        exact ⟨_, _, rfl⟩
  obtain ⟨a, b, e⟩ := key
  exact ⟨a, b, e, xiv_ok h e hv⟩
/-- a is not above b -/
def xrec (gi : List XI) (a b : XN) : List XI := match a.1, b.1 with
  | some g, some _ => (match gi[g]? with
    | some (l, h, r) => gi.set g (l, h, .inl (.inl (b.1, b.2 - a.2)) :: r)
    | none => gi)
  | _, _ => gi
theorem xval_off {Gs : List Int} {g : Option Nat} {c d y : Int} (h : xval Gs (g, c) = some y) : xval Gs (g, c + d) = some (y + d) := by
  cases g with
  | none =>
    simp only [xval, Option.some.injEq] at h ⊢
    omega
  | some g =>
    simp only [xval] at h ⊢
    cases hz : Gs[g]? with
    | none => rw [hz] at h; cases h
    | some w =>
      rw [hz] at h
      simp only [Option.map_some, Option.some.injEq] at h ⊢
      omega
theorem gok_set {Gs : List Int} {gi : List XI} {g : Nat} {l h : Int} {r : List XJ} {u : XJ} (hg : gok Gs gi) (he : gi[g]? = some (l, h, r)) (hu : ∀ z, Gs[g]? = some z → xrel Gs z u) : gok Gs (gi.set g (l, h, u :: r)) := by
  refine ⟨by simp [hg.1], fun i lo' up' r' z' hi' hz' => ?_⟩
  rw [List.getElem?_set] at hi'
  by_cases hgi : g = i
  · subst hgi
    have hlt : g < gi.length := (List.getElem?_eq_some_iff.mp he).1
    rw [if_pos rfl, if_pos hlt] at hi'
    simp only [Option.some.injEq, Prod.mk.injEq] at hi'
    obtain ⟨rfl, rfl, rfl⟩ := hi'
    obtain ⟨q1, q2, q3⟩ := hg.2 g _ _ _ z' he hz'
    refine ⟨q1, q2, fun v hv => ?_⟩
    rcases List.mem_cons.mp hv with rfl | hv
    · exact hu z' hz'
    · exact q3 v hv
  · rw [if_neg hgi] at hi'
    exact hg.2 i lo' up' r' z' hi' hz'
theorem xrec_ok {Gs : List Int} {gi : List XI} {a b : XN} {x y : Int} (h : gok Gs gi) (ha : xval Gs a = some x) (hb : xval Gs b = some y) (hle : x ≤ y) : gok Gs (xrec gi a b) := by
  obtain ⟨ga, ca⟩ := a
  obtain ⟨gb, cb⟩ := b
  unfold xrec
  split
  · rename_i g g' e1 e2
    simp only at e1 e2
    subst e1
    split
    · rename_i l u r he
      refine gok_set h he (fun z hz => ?_)
      simp only [xval, hz, Option.map_some, Option.some.injEq] at ha
      exact ⟨y - ca, by have := xval_off (d := - ca) hb; simp only [Int.sub_eq_add_neg]; exact this, by omega⟩
    · exact h
  · exact h
/-- whether a is known not to be above b -/
def xleq (gi : List XI) (a b : XN) : Bool := (match xiv gi a, xiv gi b with
    | some p, some q => decide (p.2 ≤ q.1)
    | _, _ => false) || (a.1 == b.1 && decide (a.2 ≤ b.2)) || (match a.1 with
    | some g => (match gi[g]? with
      | some (_, _, r) => r.any (fun u => match u with
        | .inl (.inl w) => w.1 == b.1 && decide (w.2 + a.2 ≤ b.2)
        | _ => false)
      | none => false)
    | none => false) || (match b.1 with
    | some g => (match gi[g]? with
      | some (_, _, r) => r.any (fun u => match u with
        | .inl (.inr w) => w.1 == a.1 && decide (a.2 ≤ w.2 + b.2)
        | _ => false)
      | none => false)
    | none => false)
theorem xval_same {Gs : List Int} {g : Option Nat} {c d x y : Int} (h1 : xval Gs (g, c) = some x) (h2 : xval Gs (g, d) = some y) : x - c = y - d := by
  have := xval_off (d := d - c) h1
  rw [show c + (d - c) = d by omega, h2] at this
  simp only [Option.some.injEq] at this
  omega
theorem xleq_ok {Gs : List Int} {gi : List XI} {a b : XN} {x y : Int} (hg : gok Gs gi) (ha : xval Gs a = some x) (hb : xval Gs b = some y) (h : xleq gi a b = true) : x ≤ y := by
  obtain ⟨ga, ca⟩ := a
  obtain ⟨gb, cb⟩ := b
  simp only [xleq, Bool.or_eq_true] at h
  rcases h with ((h | h) | h) | h
  · split at h
    · rename_i p q e1 e2
      have q1 := xiv_ok hg e1 ha
      have q2 := xiv_ok hg e2 hb
      simp only [decide_eq_true_eq] at h
      omega
    · cases h
  · simp only [Bool.and_eq_true, beq_iff_eq, decide_eq_true_eq] at h
    obtain ⟨rfl, h2⟩ := h
    have := xval_same ha hb
    omega
  · split at h
    · rename_i g
      split at h
      · rename_i l u r he
        obtain ⟨w, w1, w2⟩ := List.any_eq_true.mp h
        split at w2
        · rename_i n
          simp only [Bool.and_eq_true, beq_iff_eq, decide_eq_true_eq] at w2
          obtain ⟨n1, n2⟩ := n
          simp only at w2
          obtain ⟨rfl, w4⟩ := w2
          simp only [xval] at ha
          cases hz : Gs[g]? with
          | none => rw [hz] at ha; cases ha
          | some z =>
            rw [hz] at ha
            simp only [Option.map_some, Option.some.injEq] at ha
            obtain ⟨v, v1, v2⟩ := (hg.2 g l u r z he hz).2.2 _ w1
            have := xval_same v1 hb
            omega
        · cases w2
      · cases h
    · cases h
  · split at h
    · rename_i g
      split at h
      · rename_i l u r he
        obtain ⟨w, w1, w2⟩ := List.any_eq_true.mp h
        split at w2
        · rename_i n
          simp only [Bool.and_eq_true, beq_iff_eq, decide_eq_true_eq] at w2
          obtain ⟨n1, n2⟩ := n
          simp only at w2
          obtain ⟨rfl, w4⟩ := w2
          simp only [xval] at hb
          cases hz : Gs[g]? with
          | none => rw [hz] at hb; cases hb
          | some z =>
            rw [hz] at hb
            simp only [Option.map_some, Option.some.injEq] at hb
            obtain ⟨v, v1, v2⟩ := (hg.2 g l u r z he hz).2.2 _ w1
            have := xval_same v1 ha
            omega
        · cases w2
      · cases h
    · cases h
def xlt (gi : List XI) (a b : XN) : Option (List XI) := match xiv gi a, xiv gi b with
  | some p, some q => match xcutR gi a p.1 (q.2 - 1) with
    | some g => (xcutR g b (p.1 + 1) q.2).map (fun g => xrec g (a.1, a.2 + 1) b)
    | none => none
  | _, _ => none
def xle (gi : List XI) (a b : XN) : Option (List XI) := match xiv gi a, xiv gi b with
  | some p, some q => match xcutR gi a p.1 q.2 with
    | some g => (xcutR g b p.1 q.2).map (fun g => xrec g a b)
    | none => none
  | _, _ => none
def xeq (gi : List XI) (a b : XN) : Option (List XI) := match xiv gi a, xiv gi b with
  | some p, some q => match xcutR gi a q.1 q.2 with
    | some g => xcutR g b p.1 p.2
    | none => none
  | _, _ => none
/-- one of the two is the constant c -/
def xnec (gi : List XI) (a : XN) (p : Int × Int) (c : Int) : Option (List XI) := if p.1 = c then xcutR gi a (c + 1) p.2 else if p.2 = c then xcutR gi a p.1 (c - 1) else some gi
def xne (gi : List XI) (a b : XN) : Option (List XI) := match xiv gi a, xiv gi b with
  | some p, some q => if q.1 = q.2 then xnec gi a p q.1 else if p.1 = p.2 then xnec gi b q p.1 else some gi
  | _, _ => none
theorem xlt_ok {Gs : List Int} {gi : List XI} {a b : XN} {x y : Int} (h : gok Gs gi) (ha : xval Gs a = some x) (hb : xval Gs b = some y) (hlt : x < y) : ∃ g, xlt gi a b = some g ∧ gok Gs g := by
  obtain ⟨la, ua, e1, p1, p2⟩ := xiv_some h ha
  obtain ⟨lb, ub, e2, q1, q2⟩ := xiv_some h hb
  obtain ⟨g, g1, g2⟩ := xcutR_ok (lo := la) (hi := ub - 1) h e1 ha (by omega) (by omega)
  obtain ⟨_, _, e3, -, -⟩ := xiv_some g2 hb
  obtain ⟨g', g3, g4⟩ := xcutR_ok (lo := la + 1) (hi := ub) g2 e3 hb (by omega) (by omega)
  refine ⟨_, ?_, xrec_ok (a := (a.1, a.2 + 1)) g4 (xval_off (d := 1) ha) hb (by omega)⟩
  simp only [xlt, e1, e2, g1, g3, Option.map_some]
theorem xle_ok {Gs : List Int} {gi : List XI} {a b : XN} {x y : Int} (h : gok Gs gi) (ha : xval Gs a = some x) (hb : xval Gs b = some y) (hlt : x ≤ y) : ∃ g, xle gi a b = some g ∧ gok Gs g := by
  obtain ⟨la, ua, e1, p1, p2⟩ := xiv_some h ha
  obtain ⟨lb, ub, e2, q1, q2⟩ := xiv_some h hb
  obtain ⟨g, g1, g2⟩ := xcutR_ok (lo := la) (hi := ub) h e1 ha (by omega) (by omega)
  obtain ⟨_, _, e3, -, -⟩ := xiv_some g2 hb
  obtain ⟨g', g3, g4⟩ := xcutR_ok (lo := la) (hi := ub) g2 e3 hb (by omega) (by omega)
  refine ⟨_, ?_, xrec_ok g4 ha hb hlt⟩
  simp only [xle, e1, e2, g1, g3, Option.map_some]
theorem xeq_ok {Gs : List Int} {gi : List XI} {a b : XN} {x y : Int} (h : gok Gs gi) (ha : xval Gs a = some x) (hb : xval Gs b = some y) (he : x = y) : ∃ g, xeq gi a b = some g ∧ gok Gs g := by
  obtain ⟨la, ua, e1, p1, p2⟩ := xiv_some h ha
  obtain ⟨lb, ub, e2, q1, q2⟩ := xiv_some h hb
  obtain ⟨g, g1, g2⟩ := xcutR_ok (lo := lb) (hi := ub) h e1 ha (by omega) (by omega)
  obtain ⟨_, _, e3, -, -⟩ := xiv_some g2 hb
  obtain ⟨g', g3, g4⟩ := xcutR_ok (lo := la) (hi := ua) g2 e3 hb (by omega) (by omega)
  refine ⟨g', ?_, g4⟩
  simp only [xeq, e1, e2, g1, g3]
theorem xnec_ok {Gs : List Int} {gi : List XI} {a : XN} {x c l u : Int} (h : gok Gs gi) (ha : xval Gs a = some x) (e1 : xiv gi a = some (l, u)) (p1 : l ≤ x) (p2 : x ≤ u) (hne : x ≠ c) : ∃ g, xnec gi a (l, u) c = some g ∧ gok Gs g := by
  unfold xnec
  by_cases c1 : l = c
  · rw [if_pos c1]
    exact xcutR_ok h e1 ha (by omega) (by omega)
  · rw [if_neg c1]
    by_cases c2 : u = c
    · rw [if_pos c2]
      exact xcutR_ok h e1 ha (by omega) (by omega)
    · rw [if_neg c2]
      exact ⟨gi, rfl, h⟩
theorem xne_ok {Gs : List Int} {gi : List XI} {a b : XN} {x y : Int} (h : gok Gs gi) (ha : xval Gs a = some x) (hb : xval Gs b = some y) (he : x ≠ y) : ∃ g, xne gi a b = some g ∧ gok Gs g := by
  obtain ⟨la, ua, e1, p1, p2⟩ := xiv_some h ha
  obtain ⟨lb, ub, e2, q1, q2⟩ := xiv_some h hb
  simp only [xne, e1, e2]
  by_cases c1 : lb = ub
  · rw [if_pos c1]
    exact xnec_ok h ha e1 p1 p2 (by omega)
  · rw [if_neg c1]
    by_cases c2 : la = ua
    · rw [if_pos c2]
      exact xnec_ok h hb e2 q1 q2 (by omega)
    · rw [if_neg c2]
      exact ⟨gi, rfl, h⟩
