/-! the start: what holds of both sides -/
def kq (i k : Nat) : Option Int := match KL[i]? with
  | some c => kcv c k
  | none => none
theorem kq_cell {t : Nat → ClassId} {lo b i k : Nat} {n : Int} (h : kq i k = some n) : cellv (F00 t lo b (lo + i)) k = some (.int (Int32.ofInt n)) := by
  unfold kq at h
  cases hc : KL[i]? with
  | none => rw [hc] at h; cases h
  | some c =>
    rw [hc] at h
    have := f_made (t := t) (lo := lo) (o := 0) (ext := [b]) (cs := KL) (i := i) (by rw [List.drop_zero]; exact hc)
    rw [Nat.add_zero] at this
    show cellv (px_f lo (List.map (kcell t lo [b]) KL) (lo + i)) k = _
    rw [this]
    exact kcv_ok h
theorem kq_cv {t : Nat → ClassId} {lo b i k : Nat} {n : Int} (h : kq i k = some n) (h1 : -2147483648 ≤ n) (h2 : n ≤ 2147483647) : cv (F00 t lo b) (lo + i) k = n := by
  rw [cv_of (kq_cell h)]
  show (Int32.ofInt n).toInt = n
  exact Int32.toInt_ofInt_of_le (by omega) (by omega)
def kin (P : XP) (q : Option Int) : Bool := match q with
  | some n => inb P n n && decide (-2147483648 ≤ n) && decide (n ≤ 2147483647)
  | none => false
theorem kin_ok {B : Nat → Nat → Prop} {t : Nat → ClassId} {lo b i k : Nat} {P : XP} (h : kin P (kq i k) = true) : ∃ (x : Int32) (u w : Int), cellv (F00 t lo b (lo + i)) k = some (.int x) ∧ P = pI u w ∧ u ≤ x.toInt ∧ x.toInt ≤ w ∧ pok B P (.int x) (gv (.int x)) := by
  unfold kin at h
  cases hq : kq i k with
  | none => rw [hq] at h; cases h
  | some n =>
    rw [hq] at h
    simp only [Bool.and_eq_true, decide_eq_true_eq] at h
    obtain ⟨⟨h1, h2⟩, h3⟩ := h
    obtain ⟨u, w, e1, e2, e3⟩ := inb_ok h1
    have ex : (Int32.ofInt n).toInt = n := Int32.toInt_ofInt_of_le (by omega) (by omega)
    subst e1
    exact ⟨Int32.ofInt n, u, w, kq_cell hq, rfl, by omega, by omega, _, rfl, rfl, by show u ≤ (Int32.ofInt n).toInt; omega, by show (Int32.ofInt n).toInt ≤ w; omega⟩
def vr0 (j : Nat) : Bool := decide (j = 6) || (match (Ec true).2.2.2[j]?, VGc[j]? with
  | some (o, k), some P => kin P (kq o k)
  | _, _ => false)
theorem vr0_all : (List.range 28).all vr0 = true := by decide +kernel
theorem KL_rd : ∃ fs, KL[127]? = some (.inl (4, fs)) ∧ fs[1]? = some (kvR 72) := ⟨_, rfl, rfl⟩
theorem ic0 (t : Nat → ClassId) (lo b : Nat) : IC true t lo (F00 t lo b) := by
  refine ⟨typ_c t lo b, fun j o k P hj hP => ?_⟩
  have hlt : j < 28 := by rw [← VGc_len]; exact (List.getElem?_eq_some_iff.mp hP).1
  by_cases c : j = 6
  · subst c
    cases (show some (127, 1) = some (o, k) from hj)
    cases (show some (pR 1000) = some P from hP)
    obtain ⟨fs, h1, h2⟩ := KL_rd
    refine ⟨.ref (lo + 72), ?_, ⟨lo + 72, rfl, ?_⟩, rfl⟩
    · have := f_made (t := t) (lo := lo) (o := 0) (ext := [b]) (cs := KL) (i := 127) (by rw [List.drop_zero]; exact h1)
      rw [Nat.add_zero] at this
      show cellv (px_f lo (List.map (kcell t lo [b]) KL) (lo + 127)) 1 = _
      rw [this]
      show (fs.map (kval lo [b]))[1]? = _
      rw [List.getElem?_map, h2]
      rfl
    · unfold xB
      rw [show (Ec true).1[1000]? = none from List.getElem?_eq_none (by rw [Kc_len]; decide)]
      exact Or.inl ⟨rfl, Or.inr rfl⟩
  · have hb := List.all_eq_true.mp vr0_all j (List.mem_range.mpr hlt)
    unfold vr0 at hb
    rw [hj, hP] at hb
    simp only [Bool.or_eq_true, decide_eq_true_eq] at hb
    rcases hb with hb | hb
    · exact absurd hb c
    · obtain ⟨x, u, w, e1, -, -, -, e2⟩ := kin_ok (B := xB (Ec true) lo (xtc t lo)) (t := t) (lo := lo) (b := b) hb
      exact ⟨_, e1, e2⟩
def vb0 (j : Nat) : Bool := match Em.2.2.2[j]?, Mm6.2.1[j]? with
  | some (o, k), some P => kin P (kq (304 + o) k)
  | _, _ => false
theorem vb0_all : (List.range 33).all vb0 = true := by decide +kernel
def zz0 : Bool := (List.range 65).all (fun k => decide (kq 311 k = some 0)) && (List.range 5).all (fun k => decide (kq 310 k = some 0)) && decide (kq 304 24 = some 0) && (List.range 3).all (fun k => decide (kq 317 k = some 0) && decide (kq (128 + 56 * k) 0 = some 0)) && (List.range 4).all (fun s => decide (kq 305 s = some (-1)) && decide (kq (296 + 2 * s) 0 = some 0))
theorem zz0_ok : zz0 = true := by decide +kernel
theorem gi0 (t : Nat → ClassId) (lo b : Nat) : GI (lo + 304) (F00 t lo b) ∧ REL (lo + 304) lo (F00 t lo b) (F00 t lo b) := by
  have hz := zz0_ok
  unfold zz0 at hz
  simp only [Bool.and_eq_true, decide_eq_true_eq] at hz
  obtain ⟨⟨⟨⟨z1, z2⟩, z3⟩, z4⟩, z5⟩ := hz
  have h7 : ∀ k, k < 65 → cv (F00 t lo b) (lo + 304 + 7) k = 0 := fun k hk => by
    rw [show lo + 304 + 7 = lo + 311 by omega]
    exact kq_cv (of_decide_eq_true (List.all_eq_true.mp z1 k (List.mem_range.mpr hk))) (by decide) (by decide)
  have h6 : ∀ k, k < 5 → cv (F00 t lo b) (lo + 304 + 6) k = 0 := fun k hk => by
    rw [show lo + 304 + 6 = lo + 310 by omega]
    exact kq_cv (of_decide_eq_true (List.all_eq_true.mp z2 k (List.mem_range.mpr hk))) (by decide) (by decide)
  have h24 : cv (F00 t lo b) (lo + 304) 24 = 0 := kq_cv z3 (by decide) (by decide)
  refine ⟨⟨fun q hq => ?_, fun x hx => by rw [h24] at hx; omega⟩, fun k hk => ?_, fun s hs => Or.inl ⟨?_, ?_⟩⟩
  · unfold BK
    rw [h7 (13 * q + 12) (by omega), h7 (13 * q + 6) (by omega), h7 (13 * q + 5) (by omega), h7 (13 * q + 7) (by omega), h6 q (by omega)]
    refine ⟨⟨by decide, by decide⟩, fun k hk => by omega, ⟨by decide, by decide, ?_⟩, fun x hx => by omega, Or.inl ⟨rfl, rfl, rfl, rfl⟩⟩
    show 0 + casts (F00 t lo b) (lo + 304) q 0 ≤ 10
    simp only [casts]
    omega
  · have := List.all_eq_true.mp z4 k (List.mem_range.mpr hk)
    simp only [Bool.and_eq_true, decide_eq_true_eq] at this
    rw [kq_cv this.2 (by decide) (by decide), show lo + 304 + 13 = lo + 317 by omega, kq_cv this.1 (by decide) (by decide)]
  · have := List.all_eq_true.mp z5 s (List.mem_range.mpr hs)
    simp only [Bool.and_eq_true, decide_eq_true_eq] at this
    exact kq_cv this.2 (by decide) (by decide)
  · have := List.all_eq_true.mp z5 s (List.mem_range.mpr hs)
    simp only [Bool.and_eq_true, decide_eq_true_eq] at this
    rw [show lo + 304 + 1 = lo + 305 by omega]
    exact kq_cv this.1 (by decide) (by decide)
theorem im0 (t : Nat → ClassId) (lo b : Nat) : IM t (lo + 304) (F00 t lo b) := by
  refine ⟨typ_m t lo b, (gi0 t lo b).1, fun j o k P hj hP => ?_⟩
  have hlt : j < 33 := by rw [← trm_len]; exact (List.getElem?_eq_some_iff.mp hj).1
  have hb := List.all_eq_true.mp vb0_all j (List.mem_range.mpr hlt)
  unfold vb0 at hb
  rw [hj, hP] at hb
  obtain ⟨x, u, w, e1, e2, e3, e4, -⟩ := kin_ok (B := fun _ _ => True) (t := t) (lo := lo) (b := b) hb
  exact ⟨x, u, w, by rw [show lo + 304 + o = lo + (304 + o) by omega]; exact e1, e2, e3, e4⟩
/-- both pools, out of the one that the constructors leave -/
theorem lawi0 {D : va_G} {t : Nat → ClassId} {lo b : Nat} {A : Nat → Prop} {s : State} {H : Heap} {locs : List Loc} (h : HX D t lo 321 (F00 t lo b) A s H locs) : LAWI D t lo (lo + 304) A s H locs := by
  refine ⟨true, F00 t lo b, F00 t lo b, ⟨h.1, px_Pof (fun a h1 h2 => px_Pat h.2.1 ⟨h1, by omega⟩), ⟨fun q h1 h2 => h.2.2.1.1 q h1 (by omega), h.2.2.1.2⟩, h.2.2.2⟩, ⟨h.1, px_Pof (fun a h1 h2 => px_Pat h.2.1 ⟨by omega, by omega⟩), ⟨fun q h1 h2 => h.2.2.1.1 q (by omega) (by omega), h.2.2.1.2⟩, h.2.2.2⟩, ic0 t lo b, im0 t lo b, (gi0 t lo b).2⟩
