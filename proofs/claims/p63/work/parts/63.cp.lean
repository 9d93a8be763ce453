/-! a town copied: what holds between calls -/
theorem BK_move {lo a b : Nat} {f f' : Nat → va_E} (h7 : ∀ k, k < 13 → cv f' (lo + 7) (13 * b + k) = cv f (lo + 7) (13 * a + k)) (h12 : ∀ k, k < 200 → cv f' (lo + 12) (200 * b + k) = cv f (lo + 12) (200 * a + k)) (h9 : ∀ k, k < 48 → cv f' (lo + 9) (48 * b + k) = cv f (lo + 9) (48 * a + k)) (h6 : cv f' (lo + 6) b = cv f (lo + 6) a) (h : BK lo f a) : BK lo f' b := by
  obtain ⟨⟨a1, a2⟩, b1, ⟨c1, c0, c2⟩, d, e⟩ := h
  have e12 := h7 12 (by omega)
  have e6 := h7 6 (by omega)
  have e5 := h7 5 (by omega)
  have e7 := h7 7 (by omega)
  have e0 : cv f' (lo + 7) (13 * b) = cv f (lo + 7) (13 * a) := h7 0 (by omega)
  have ec : ∀ n, n ≤ 40 → casts f' lo b n = casts f lo a n := by
    intro n
    induction n with
    | zero => intro _; rfl
    | succ n ih =>
      intro hn
      simp only [casts]
      rw [ih (by omega), h12 (5 * n) (by omega)]
  refine ⟨by rw [e12]; exact ⟨a1, a2⟩, fun k hk => ?_, ?_, fun q hq => ?_, ?_⟩
  · rw [e12] at hk
    rw [h12 (5 * k) (by omega), Nat.add_assoc, h12 (5 * k + 1) (by omega), ← Nat.add_assoc]
    exact b1 k hk
  · rw [e12, e6, ec _ (by omega)]
    exact ⟨c1, c0, c2⟩
  · rw [e6] at hq
    rw [h9 (6 * q) (by omega)]
    exact d q hq
  · rw [h6, e5, e7, e12, e0]
    exact e
theorem TR_len {i z m b : Nat} (h : (i, z, m) ∈ TR) (hb : b ≤ 4) : m * b + m ≤ z := by
  simp only [TR, List.mem_cons, List.not_mem_nil, or_false, Prod.mk.injEq] at h
  rcases h with ⟨rfl, rfl, rfl⟩ | ⟨rfl, rfl, rfl⟩ | ⟨rfl, rfl, rfl⟩ | ⟨rfl, rfl, rfl⟩ | ⟨rfl, rfl, rfl⟩ | ⟨rfl, rfl, rfl⟩ | ⟨rfl, rfl, rfl⟩ <;> omega
section
variable {t : Nat → ClassId} {lo a b : Nat} {f : Nat → va_E} {gs : Nat → Nat → Int32}
theorem cp_in {i z m k : Nat} (h : (i, z, m) ∈ TR) (hg : f (lo + i) = .inl (t 0, z, .inl (gs i))) (ha : a ≤ 4) (hb : b ≤ 4) (hk : k < m) : cv (cpT t lo a b f gs) (lo + i) (m * b + k) = cv f (lo + i) (m * a + k) := by
  have l1 := TR_len h ha
  have l2 := TR_len h hb
  rw [cv_arr (cpT_at h) (by omega), cv_arr hg (by omega)]
  unfold cpy
  rw [if_pos (by omega), show m * b + k - m * b + m * a = m * a + k by omega]
theorem cp_out {i z m q : Nat} (h : (i, z, m) ∈ TR) (hg : f (lo + i) = .inl (t 0, z, .inl (gs i))) (hq : q < z) (ho : q < m * b ∨ m * b + m ≤ q) : cv (cpT t lo a b f gs) (lo + i) q = cv f (lo + i) q := by
  rw [cv_arr (cpT_at h) hq, cv_arr hg hq]
  unfold cpy
  rw [if_neg (by omega)]
theorem cpy_b {g : Nat → Int32} {A B m z : Nat} {u w : Int} (h : ∀ i, i < z → u ≤ (g i).toInt ∧ (g i).toInt ≤ w) (hA : A + m ≤ z) : ∀ i, i < z → u ≤ (cpy g A B m i).toInt ∧ (cpy g A B m i).toInt ≤ w := by
  intro i hi
  unfold cpy
  by_cases c : B ≤ i ∧ i < B + m
  · rw [if_pos c]
    exact h _ (by omega)
  · rw [if_neg c]
    exact h i hi
def kbl (κ : XK) : List (Int × Int) := match κ with
  | .inr (_, _, .inl (_, _, _, bl)) => bl
  | _ => []
def hbl : List (Int × Int) := kbl (Em.1.getD 7 (.inl (0, [])))
theorem hbl_len : hbl.length = 65 := by decide +kernel
theorem hbl_ok0 : (List.range 5).all (fun a => (List.range 4).all (fun b => (List.range 13).all (fun k => decide ((hbl.getD (13 * b + k) (0, 0)).1 ≤ (hbl.getD (13 * a + k) (0, 0)).1) && decide ((hbl.getD (13 * a + k) (0, 0)).2 ≤ (hbl.getD (13 * b + k) (0, 0)).2)))) = true := by decide +kernel
theorem hbl_ok {g : Nat → Int32} (h : BL hbl g) (ha : a ≤ 4) (hb : b ≤ 3) : BL hbl (cpy g (13 * a) (13 * b) 13) := by
  intro i x hx
  have hlt : i < 65 := by rw [← hbl_len]; exact (List.getElem?_eq_some_iff.mp hx).1
  unfold cpy
  by_cases c : 13 * b ≤ i ∧ i < 13 * b + 13
  · rw [if_pos c]
    obtain ⟨k, rfl⟩ : ∃ k, i = 13 * b + k := ⟨i - 13 * b, by omega⟩
    rw [show 13 * b + k - 13 * b + 13 * a = 13 * a + k by omega]
    have hl : 13 * a + k < hbl.length := by rw [hbl_len]; omega
    have e := h (13 * a + k) _ (List.getElem?_eq_getElem hl)
    have q := List.all_eq_true.mp (List.all_eq_true.mp (List.all_eq_true.mp hbl_ok0 a (List.mem_range.mpr (by omega))) b (List.mem_range.mpr (by omega))) k (List.mem_range.mpr (by omega))
    rw [Bool.and_eq_true, decide_eq_true_eq, decide_eq_true_eq] at q
    rw [List.getD_eq_getElem?_getD, List.getD_eq_getElem?_getD, hx, List.getElem?_eq_getElem hl] at q
    simp only [Option.getD_some] at q
    omega
  · rw [if_neg c]
    exact h i x hx
theorem TYP_cp {xt : XX} (hT : TYP Em xt t lo f) (hg : ∀ i z m, (i, z, m) ∈ TR → f (lo + i) = .inl (t 0, z, .inl (gs i))) (ha : a ≤ 4) (hb : b ≤ 3) : TYP Em xt t lo (cpT t lo a b f gs) := by
  have inj : ∀ {z : Nat} {g g' : Nat → Int32} {c : ClassId}, (Sum.inl (c, z, Sum.inl g) : va_E) = .inl (c, z, .inl g') → g = g' := fun h => by cases h; rfl
  have one : ∀ (i z m : Nat) (u w : Int) (tk : List (Nat × Nat)), (i, z, m) ∈ TR → Em.1[i]? = some (.inr (0, z, .inl (u, w, tk, []))) → Em.2.1[i]? = some i → ∃ κ, Em.1[i]? = some κ ∧ cok (xB Em lo xt) t κ (cpT t lo a b f gs (lo + i)) := by
    intro i z m u w tk h1 h2 h3
    obtain ⟨g, e1, e2, -⟩ := (cok_arr (by decide)).mp (typ_at hT h3 h2)
    rw [hg i z m h1] at e1
    cases inj e1
    refine ⟨_, h2, (cok_arr (by decide)).mpr ⟨_, cpT_at h1, cpy_b e2 (TR_len h1 ha), fun i b hb => by cases hb⟩⟩
  intro i k hi
  have hlt : i < 17 := (List.getElem?_eq_some_iff.mp hi).1
  have ei := kdm_eq hi
  subst ei
  by_cases c6 : i = 6
  · subst c6; exact one 6 5 1 _ _ _ (by decide) rfl rfl
  by_cases c7 : i = 7
  · subst c7
    obtain ⟨g, e1, e2, e3⟩ := (cok_arr (by decide)).mp (typ_at hT (i := 7) (k := 7) rfl (rfl : Em.1[7]? = some _))
    rw [hg 7 65 13 (by decide)] at e1
    cases inj e1
    exact ⟨_, rfl, (cok_arr (by decide)).mpr ⟨_, cpT_at (m := 13) (by decide), cpy_b e2 (by omega), hbl_ok e3 ha hb⟩⟩
  by_cases c8 : i = 8
  · subst c8; exact one 8 20 4 _ _ _ (by decide) rfl rfl
  by_cases c9 : i = 9
  · subst c9; exact one 9 240 48 _ _ _ (by decide) rfl rfl
  by_cases c10 : i = 10
  · subst c10; exact one 10 20 4 _ _ _ (by decide) rfl rfl
  by_cases c11 : i = 11
  · subst c11; exact one 11 120 24 _ _ _ (by decide) rfl rfl
  by_cases c12 : i = 12
  · subst c12; exact one 12 1000 200 _ _ _ (by decide) rfl rfl
  rw [cpT_off (by omega)]
  exact hT i i hi
end
def cpB (j : Nat) : Bool := match Em.2.2.2[j]?, Mm6.2.1[j]? with
  | some (o, k), some P => decide (o = 0 ∨ o = 2) || (decide (o = 6 ∧ k < 5) && inb P 0 1401) || (decide (o = 7 ∧ k < 65) && inb P (hbl.getD k (0, 0)).1 (hbl.getD k (0, 0)).2) || (decide (o = 9 ∧ k < 240) && inb P (-1) 10000)
  | _, _ => false
theorem cpB_all : (List.range 33).all cpB = true := by decide +kernel
/-- what V tells, of types, where the object and many are as they were -/
theorem VB_typ {xt : XX} {t : Nat → ClassId} {lo : Nat} {f f2 : Nat → va_E} (hT : TYP Em xt t lo f2) (hV : VB Em lo Mm6.2.1 f) (h : ∀ (j o k : Nat), Em.2.2.2[j]? = some (o, k) → (o = 0 ∨ o = 2) → cellv (f2 (lo + o)) k = cellv (f (lo + o)) k) : VB Em lo Mm6.2.1 f2 := by
  intro j o k P hj hP
  have hlt : j < 33 := by rw [← trm_len]; exact (List.getElem?_eq_some_iff.mp hj).1
  have hb := List.all_eq_true.mp cpB_all j (List.mem_range.mpr hlt)
  unfold cpB at hb
  rw [hj, hP] at hb
  simp only [Bool.or_eq_true, Bool.and_eq_true, decide_eq_true_eq] at hb
  rcases hb with ((q | ⟨⟨rfl, q2⟩, q⟩) | ⟨⟨rfl, q2⟩, q⟩) | ⟨⟨rfl, q2⟩, q⟩
  · rw [h j o k hj q]
    exact hV j o k P hj hP
  · obtain ⟨x, y, e1, e2, e3⟩ := inb_ok q
    obtain ⟨g, p1, p2, -⟩ := (cok_arr (by decide)).mp (typ_at hT (i := 6) (k := 6) rfl (rfl : Em.1[6]? = some _))
    have := p2 k q2
    refine ⟨g k, x, y, ?_, e1, by omega, by omega⟩
    rw [p1]
    show (if k < 5 then some (Value.int (g k)) else none) = _
    rw [if_pos q2]
  · obtain ⟨x, y, e1, e2, e3⟩ := inb_ok q
    obtain ⟨g, p1, p2, p3⟩ := (cok_arr (by decide)).mp (typ_at hT (i := 7) (k := 7) rfl (rfl : Em.1[7]? = some _))
    have hl : k < hbl.length := by rw [hbl_len]; exact q2
    have := (show BL hbl g from p3) k _ (List.getElem?_eq_getElem hl)
    rw [List.getD_eq_getElem?_getD, List.getElem?_eq_getElem hl] at e2 e3
    simp only [Option.getD_some] at e2 e3
    refine ⟨g k, x, y, ?_, e1, by omega, by omega⟩
    rw [p1]
    show (if k < 65 then some (Value.int (g k)) else none) = _
    rw [if_pos q2]
  · obtain ⟨x, y, e1, e2, e3⟩ := inb_ok q
    obtain ⟨g, p1, p2, -⟩ := (cok_arr (by decide)).mp (typ_at hT (i := 9) (k := 9) rfl (rfl : Em.1[9]? = some _))
    have := p2 k q2
    refine ⟨g k, x, y, ?_, e1, by omega, by omega⟩
    rw [p1]
    show (if k < 240 then some (Value.int (g k)) else none) = _
    rw [if_pos q2]
theorem IM_cp {t : Nat → ClassId} {lo a b : Nat} {f : Nat → va_E} {gs : Nat → Nat → Int32} (hI : IM t lo f) (hg : ∀ i z m, (i, z, m) ∈ TR → f (lo + i) = .inl (t 0, z, .inl (gs i))) (ha : a ≤ 4) (hb : b ≤ 3) (hB : BK lo f a) : IM t lo (cpT t lo a b f gs) ∧ KP lo f (cpT t lo a b f gs) := by
  have hT := TYP_cp (a := a) (b := b) hI.1 hg ha hb
  have off : ∀ o k : Nat, o < 6 ∨ 12 < o → cv (cpT t lo a b f gs) (lo + o) k = cv f (lo + o) k := fun o k h => by
    unfold cv
    rw [cpT_off (by omega)]
  refine ⟨⟨hT, ⟨fun q hq => ?_, fun x hx => ?_⟩, VB_typ hT hI.2.2 (fun j o k hj ho => ?_)⟩, fun k _ => off 1 k (by omega), fun k _ => off 2 k (by omega), fun k _ => off 13 k (by omega)⟩
  · by_cases c : q = b
    · subst c
      have e6 := cp_in (a := a) (b := q) (k := 0) (show (6, 5, 1) ∈ TR by decide) (hg 6 5 1 (by decide)) ha (by omega) (by decide)
      simp only [Nat.one_mul, Nat.add_zero] at e6
      exact BK_move (fun k hk => cp_in (show (7, 65, 13) ∈ TR by decide) (hg 7 65 13 (by decide)) ha (by omega) hk) (fun k hk => cp_in (show (12, 1000, 200) ∈ TR by decide) (hg 12 1000 200 (by decide)) ha (by omega) hk) (fun k hk => cp_in (show (9, 240, 48) ∈ TR by decide) (hg 9 240 48 (by decide)) ha (by omega) hk) e6 hB
    · exact BK_move (fun k hk => cp_out (show (7, 65, 13) ∈ TR by decide) (hg 7 65 13 (by decide)) (by omega) (by omega)) (fun k hk => cp_out (show (12, 1000, 200) ∈ TR by decide) (hg 12 1000 200 (by decide)) (by omega) (by omega)) (fun k hk => cp_out (show (9, 240, 48) ∈ TR by decide) (hg 9 240 48 (by decide)) (by omega) (by omega)) (cp_out (show (6, 5, 1) ∈ TR by decide) (hg 6 5 1 (by decide)) (by omega) (by omega)) (hI.2.1.1 q hq)
  · have e := off 0 24 (by omega)
    rw [show lo + 0 = lo from rfl] at e
    rw [e] at hx
    rw [off 14 _ (by omega)]
    exact hI.2.1.2 x hx
  · rw [cpT_off (by omega)]
