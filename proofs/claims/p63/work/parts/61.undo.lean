/-! row, write, undo, anew of the reference -/
def VU : List XP := Mm6.2.1 ++ [pI (-1) 3, pI (-1) 3, pI (-1) 3, pI (-1) 3]
theorem Eu_kd : Eu.2.1 = Em.2.1 := rfl
theorem Eu_ks : Eu.1.map kstrip = Em.1.map kstrip := rfl
theorem tru_len : Eu.2.2.2.length = 37 := by decide +kernel
theorem tru_pre : ∀ j : Fin 33, Eu.2.2.2[(j : Nat)]? = Em.2.2.2[(j : Nat)]? := by decide +kernel
theorem tru_w : ∀ s : Fin 4, Eu.2.2.2[33 + (s : Nat)]? = some (1, (s : Nat)) := by decide +kernel
theorem tru_m : ∀ s : Fin 4, Eu.2.2.2[15 + (s : Nat)]? = some (2, (s : Nat)) := by decide +kernel
theorem VU_len : VU.length = 37 := by decide +kernel
theorem VU_pre0 : ((List.range 33).all fun n => decide (VU[n]? = Mm6.2.1[n]?)) = true := by decide +kernel
theorem VU_w0 : ((List.range 4).all fun n => decide (VU[33 + n]? = some (pI (-1) 3))) = true := by decide +kernel
theorem twxu {f1 : Nat → va_E} {t : Nat → ClassId} {lo : Nat} : TWX Eu (xte Eu f1 t) lo ∧ STok Eu (xte Eu f1 t) t := ⟨⟨twu, pge Eu f1 t lo, fun f h κ p j q a b hm => by cases hm⟩, ste (by decide +kernel)⟩
theorem VB_um {xt : XX} {t : Nat → ClassId} {lo : Nat} {f : Nat → va_E} (hV : VB Em lo Mm6.2.1 f) (hT : TYP Em xt t lo f) : VB Eu lo VU f := by
  intro j o k P hj hP
  have hlt : j < 37 := by rw [← tru_len]; exact (List.getElem?_eq_some_iff.mp hj).1
  by_cases c1 : j < 33
  · rw [tru_pre ⟨j, c1⟩] at hj
    rw [of_decide_eq_true (List.all_eq_true.mp VU_pre0 j (List.mem_range.mpr c1))] at hP
    exact hV j o k P hj hP
  · obtain ⟨b, rfl⟩ : ∃ b, j = 33 + b := ⟨j - 33, by omega⟩
    have hb : b < 4 := by omega
    rw [tru_w ⟨b, hb⟩] at hj
    cases hj
    rw [of_decide_eq_true (List.all_eq_true.mp VU_w0 b (List.mem_range.mpr hb))] at hP
    cases hP
    obtain ⟨gi, p14, p14b, -⟩ := (cok_arr (by decide)).mp (typ_at hT (i := 1) (k := 1) rfl (rfl : Em.1[1]? = some _))
    have := p14b b hb
    refine ⟨gi b, -1, 3, ?_, rfl, this.1, this.2⟩
    rw [p14]
    show (if b < 4 then some (Value.int (gi b)) else none) = _
    rw [if_pos hb]
theorem VB_mu {lo : Nat} {f : Nat → va_E} (hV : VB Eu lo VU f) : VB Em lo Mm6.2.1 f := by
  intro j o k P hj hP
  have hlt : j < 33 := by rw [← trm_len]; exact (List.getElem?_eq_some_iff.mp hj).1
  rw [← tru_pre ⟨j, hlt⟩] at hj
  rw [← of_decide_eq_true (List.all_eq_true.mp VU_pre0 j (List.mem_range.mpr hlt))] at hP
  exact hV j o k P hj hP
theorem GI_u {lo : Nat} {f f2 : Nat → va_E} (hg : gsame Eu lo f f2) (hG : GI lo f) (hb : cv f (lo + 0) 24 ≤ 10) (h : 0 ≤ cv f2 (lo + 7) 12 ∧ cv f2 (lo + 7) 12 ≤ cv f (lo + 7) 12) : GI lo f2 := by
  have c7 : ∀ k, k < 52 → k ≠ 2 → k ≠ 12 → cv f2 (lo + 7) k = cv f (lo + 7) k := by
    intro k h1 h2 h3
    by_cases c1 : k < 2
    · exact gs_cv hg rfl rfl ⟨(0, 2), by decide, by omega, c1⟩
    · by_cases c2 : k < 12
      · exact gs_cv hg rfl rfl ⟨(3, 12), by decide, by show 3 ≤ k; omega, c2⟩
      · exact gs_cv hg rfl rfl ⟨(13, 52), by decide, by show 13 ≤ k; omega, h1⟩
  have c12 : ∀ k, k < 1000 → cv f2 (lo + 12) k = cv f (lo + 12) k := fun k hk => gs_cv hg rfl rfl ⟨(0, 1000), by decide, by omega, hk⟩
  have c9 : ∀ k, k < 192 → cv f2 (lo + 9) k = cv f (lo + 9) k := fun k hk => gs_cv hg rfl rfl ⟨(0, 192), by decide, by omega, hk⟩
  have c6 : ∀ k, k < 4 → cv f2 (lo + 6) k = cv f (lo + 6) k := fun k hk => gs_cv hg rfl rfl ⟨(0, 4), by decide, by omega, hk⟩
  have c14 : ∀ k, k < 60 → cv f2 (lo + 14) k = cv f (lo + 14) k := fun k hk => gs_cv hg rfl rfl ⟨(0, 60), by decide, by omega, hk⟩
  have c24 : cv f2 (lo + 0) 24 = cv f (lo + 0) 24 := gs_cv hg rfl rfl ⟨(24, 25), by decide, by decide, by decide⟩
  refine ⟨fun q hq => ?_, fun b hb' => ?_⟩
  · obtain ⟨⟨a1, a2⟩, b1, ⟨d1, d2, d3⟩, e1, f1⟩ := hG.1 q hq
    by_cases c0 : q = 0
    · subst c0
      simp only [Nat.mul_zero, Nat.zero_add] at a1 a2 b1 d1 d2 d3 e1 f1
      unfold BK
      simp only [Nat.mul_zero, Nat.zero_add]
      rw [c7 6 (by decide) (by decide) (by decide), c7 5 (by decide) (by decide) (by decide), c7 7 (by decide) (by decide) (by decide), c7 0 (by decide) (by decide) (by decide), c6 0 (by decide)]
      refine ⟨⟨by omega, by omega⟩, fun k hk => ?_, ⟨d1, d2, ?_⟩, fun k hk => ?_, ?_⟩
      · rw [c12 _ (by omega), c12 _ (by omega)]
        exact b1 k (by omega)
      · rw [casts_congr (f := f) (fun k hk => c12 _ (by omega))]
        have := casts_mono (f := f) (lo := lo) (t := 0) (m := (cv f2 (lo + 7) 12).toNat) (n := (cv f (lo + 7) 12).toNat) (by omega)
        omega
      · rw [c9 _ (by omega)]
        exact e1 k hk
      · rcases f1 with f1 | f1
        · exact Or.inl ⟨f1.1, f1.2.1, f1.2.2.1, by omega⟩
        · exact Or.inr f1
    · unfold BK
      rw [c7 (13 * q + 12) (by omega) (by omega) (by omega), c7 (13 * q + 6) (by omega) (by omega) (by omega), c7 (13 * q + 5) (by omega) (by omega) (by omega), c7 (13 * q + 7) (by omega) (by omega) (by omega), c7 (13 * q) (by omega) (by omega) (by omega), c6 q hq]
      refine ⟨⟨a1, a2⟩, fun k hk => ?_, ⟨d1, d2, ?_⟩, fun k hk => ?_, f1⟩
      · rw [c12 _ (by omega), c12 _ (by omega)]
        exact b1 k hk
      · rw [casts_congr (f := f) (fun k hk => c12 _ (by omega))]
        exact d3
      · rw [c9 _ (by omega)]
        exact e1 k hk
  · rw [show lo = lo + 0 from rfl, c24] at hb'
    rw [c14 _ (by omega)]
    exact hG.2 b hb'
/-- the acts' number is not above what it was -/
def h12j (na : Nat) (Q : XP) : Bool := match Q with
  | .inl (.inl (u, w)) => decide (u = 0) && decide (w = 0)
  | .inr (.inr (.inl (some g, c))) => decide (g = na + 14) && decide (c ≤ 0)
  | _ => false
def h12B (na : Nat) (o : XO) : Bool := match o.2.2.1[14]? with
  | some Q => h12j na Q
  | none => false
abbrev UZ (rt : Nat) (t : Nat → ClassId) (lo : Nat) (f : Nat → va_E) (M : XM) (zs : List Int) : Option Value → (Nat → va_E) → Prop := fun ov f2 => RTy rt ov ∧ IM t lo f2 ∧ (∀ k, k < 3 → cv f2 (lo + 13) k = cv f (lo + 13) k) ∧ ∃ o, o ∈ M.2.2.1 ∧ OOK Eu (xte Eu f t) lo (zs ++ cvs Eu lo f) o ov f2
theorem IM_10 {t : Nat → ClassId} {lo : Nat} {f : Nat → va_E} (h : IM t lo f) : cv f (lo + 0) 24 ≤ 10 := by
  obtain ⟨i, a1, a2, a3, a4⟩ := VB_at h.2.2 (show Em.2.2.2[5]? = some (0, 24) from rfl) (show Mm6.2.1[5]? = some (pI 0 10) from rfl)
  omega
theorem pub_u {l : Launch} {D : va_G} {t : Nat → ClassId} {lo rt : Nat} {f : Nat → va_E} {Y : XY} {M : XM} {vs : List Value} {zs : List Int} (hI : IM t lo f) (H : HOLDS l Eu (xte Eu f t) D t lo Y M) (hV : M.2.1 = VU) (hr : M.2.2.2 = []) (hx : M.2.2.1.all (fun o => exL o VU o.2.2.1 && ansB rt o && h12B M.1.length o) = true) (ha : AOK (xB Eu lo (xte Eu f t)) M.1 vs zs) : MetZ l Y D t lo 17 f vs (UZ rt t lo f M zs) := by
  have hT0 : TYP Eu (xte Eu f t) t lo f := TYP_strip Eu_kd.symm Eu_ks.symm rfl hI.1
  have hVm : VB Eu lo M.2.1 f := by rw [hV]; exact VB_um hI.2.2 hI.1
  have hl : Eu.2.2.2.length = M.2.1.length := by rw [hV, tru_len, VU_len]
  refine MetZ.mono (MetZ.ofX H (ent_of hl hVm ha hr) hT0 gsame_rf) (fun ov f2 hz => ?_)
  obtain ⟨o, ho, hO, hT, hF⟩ := hz
  have hb := List.all_eq_true.mp hx o ho
  simp only [Bool.and_eq_true] at hb
  obtain ⟨⟨b1, b2⟩, b3⟩ := hb
  have hg : gsame Eu lo f f2 := hF.2
  have hV2 := VB_exit hO b1
  have e14 : Eu.2.2.2[14]? = some (7, 12) := rfl
  have hzl : zs.length = M.1.length := (AOK_len ha).1
  have h12 : 0 ≤ cv f2 (lo + 7) 12 ∧ cv f2 (lo + 7) 12 ≤ cv f (lo + 7) 12 := by
    obtain ⟨i0, x1, x2, x3, x4⟩ := VB_at hI.2.2 (show Em.2.2.2[14]? = some (7, 12) from rfl) (show Mm6.2.1[14]? = some (pI 0 40) from rfl)
    obtain ⟨i, y1, y2, y3, y4⟩ := VB_at hV2 e14 (show VU[14]? = some (pI 0 40) from rfl)
    refine ⟨by omega, ?_⟩
    unfold h12B at b3
    cases hc : o.2.2.1[14]? with
    | none => rw [hc] at b3; cases b3
    | some Q =>
      rw [hc] at b3
      match Q, hc, b3 with
      | .inl (.inl (u, w)), hc, b3 =>
        simp only [h12j, Bool.and_eq_true, decide_eq_true_eq] at b3
        obtain ⟨i', q1, q2, q3, q4⟩ := out_box hO e14 hc
        omega
      | .inr (.inr (.inl (some g, c))), hc, b3 =>
        simp only [h12j, Bool.and_eq_true, decide_eq_true_eq] at b3
        obtain ⟨rfl, b3⟩ := b3
        have ez := cvs_at (zs := zs) (f := f) (lo := lo) e14
        rw [hzl] at ez
        obtain ⟨i', q1, q2, q3⟩ := out_num hO e14 hc ez
        omega
  refine ⟨ansB_ok hO b2, ⟨TYP_strip Eu_kd Eu_ks rfl hT, GI_u hg hI.2.1 (IM_10 hI) h12, VB_mu hV2⟩, fun k hk => gs_cv hg rfl rfl ⟨(0, 3), by decide, by omega, hk⟩, o, ho, hO⟩
theorem R_undo (l : Launch) (D : va_G) (t : Nat → ClassId) (lo : Nat) {f : Nat → va_E} (hI : IM t lo f) : MetZ l Yu3 D t lo 17 f [.ref lo] (UZ 0 t lo f Mu2 [0]) := pub_u (zs := [0]) hI (Hu2 l _ D t lo twxu) (by decide +kernel) rfl (by decide +kernel) ⟨⟨⟨lo, rfl, xB_of (i := 0) rfl (rfl : Eu.1[0]? = some _)⟩, rfl⟩, trivial⟩
theorem R_anew (l : Launch) (D : va_G) (t : Nat → ClassId) (lo : Nat) {f : Nat → va_E} (hI : IM t lo f) : MetZ l Yu1 D t lo 17 f [.ref lo] (UZ 0 t lo f Mu1 [0]) := pub_u (zs := [0]) hI (Hu1 l _ D t lo twxu) (by decide +kernel) rfl (by decide +kernel) ⟨⟨⟨lo, rfl, xB_of (i := 0) rfl (rfl : Eu.1[0]? = some _)⟩, rfl⟩, trivial⟩
theorem R_row (l : Launch) (D : va_G) (t : Nat → ClassId) (lo : Nat) {f : Nat → va_E} (hI : IM t lo f) (a0 a1 a2 : Int32) : MetZ l Yu8 D t lo 17 f [.ref lo, .int a0, .int a1, .int a2] (UZ 0 t lo f Mu8 [0, a0.toInt, a1.toInt, a2.toInt]) := pub_u (zs := [0, a0.toInt, a1.toInt, a2.toInt]) hI (Hu8 l _ D t lo twxu) (by decide +kernel) rfl (by decide +kernel) ⟨⟨⟨lo, rfl, xB_of (i := 0) rfl (rfl : Eu.1[0]? = some _)⟩, rfl⟩, ⟨a0, rfl, rfl, Int32.le_toInt a0, Int32.toInt_le a0⟩, ⟨a1, rfl, rfl, Int32.le_toInt a1, Int32.toInt_le a1⟩, ⟨a2, rfl, rfl, Int32.le_toInt a2, Int32.toInt_le a2⟩, trivial⟩
theorem R_write (l : Launch) (D : va_G) (t : Nat → ClassId) (lo : Nat) {f : Nat → va_E} (hI : IM t lo f) (a0 a1 : Int32) (a2 : Int64) : MetZ l Yu4 D t lo 17 f [.ref lo, .int a0, .int a1, .long a2] (UZ 0 t lo f Mu7 [0, a0.toInt, a1.toInt, a2.toInt]) := pub_u (zs := [0, a0.toInt, a1.toInt, a2.toInt]) hI (Hu7 l _ D t lo twxu) (by decide +kernel) rfl (by decide +kernel) ⟨⟨⟨lo, rfl, xB_of (i := 0) rfl (rfl : Eu.1[0]? = some _)⟩, rfl⟩, ⟨a0, rfl, rfl, Int32.le_toInt a0, Int32.toInt_le a0⟩, ⟨a1, rfl, rfl, Int32.le_toInt a1, Int32.toInt_le a1⟩, ⟨a2, rfl, rfl, Int64.le_toInt a2, Int64.toInt_le a2⟩, trivial⟩
