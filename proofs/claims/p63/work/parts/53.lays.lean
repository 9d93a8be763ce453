/-! inside lays: what is kept; types; cases -/
/-- guarded places and rows that are not written are as they were -/
def gsame (E : XE) (lo : Nat) (f1 f : Nat → va_E) : Prop := (∀ (i κ k : Nat) (ps : List (Nat × Nat)), E.2.1[i]? = some κ → xwr E κ = some ps → (∃ q ∈ ps, q.1 ≤ k ∧ k < q.2) → cellv (f (lo + i)) k = cellv (f1 (lo + i)) k) ∧ ∀ (i κ : Nat), E.2.1[i]? = some κ → xwr E κ = none → f (lo + i) = f1 (lo + i)
theorem gsame_rf {E : XE} {lo : Nat} {f : Nat → va_E} : gsame E lo f f := ⟨fun _ _ _ _ _ _ _ => rfl, fun _ _ _ _ => rfl⟩
def xte (E : XE) (f1 : Nat → va_E) (t : Nat → ClassId) : XX := (fun k a => 2000 ≤ k ∧ k < 2019 ∧ a = t (100 + (k - 2000)), fun lo f => gsame E lo f1 f)
theorem pge (E : XE) (f1 : Nat → va_E) (t : Nat → ClassId) (lo : Nat) : PGS E (xte E f1 t) lo := fun _ _ h1 h2 h => ⟨fun i κ k ps a b c => (h1 i κ k ps a b c).trans (h.1 i κ k ps a b c), fun i κ a b => (h2 i κ a b).trans (h.2 i κ a b)⟩
theorem ste {E : XE} {f1 : Nat → va_E} {t : Nat → ClassId} (h : E.1.length ≤ 2000) : STok E (xte E f1 t) t := by
  refine ⟨h, fun n hn a => ?_⟩
  show (2000 ≤ 2000 + n ∧ 2000 + n < 2019 ∧ a = t (100 + (2000 + n - 2000))) ↔ a = t (100 + n)
  rw [show 2000 + n - 2000 = n by omega]
  exact ⟨fun h => h.2.2, fun h => ⟨by omega, by omega, h⟩⟩
def kstrip (κ : XK) : XK := match κ with
  | .inr (tt, z, .inl (lo, hi, _, bl)) => .inr (tt, z, .inl (lo, hi, [], bl))
  | κ => κ
theorem cok_strip {B : Nat → Nat → Prop} {t : Nat → ClassId} {κ : XK} {e : va_E} : cok B t (kstrip κ) e = cok B t κ e := by
  match κ with
  | .inl (ci, ts) => rfl
  | .inr (tt, z, .inl (lo, hi, tk, bl)) => rfl
  | .inr (tt, z, .inr ks) => rfl
theorem TYP_strip {E E' : XE} {xt xt' : XX} {t : Nat → ClassId} {lo : Nat} {f : Nat → va_E} (h2 : E.2.1 = E'.2.1) (h1 : E.1.map kstrip = E'.1.map kstrip) (hx : xt.1 = xt'.1) (h : TYP E xt t lo f) : TYP E' xt' t lo f := by
  have hk : ∀ k : Nat, (E.1[k]?).map kstrip = (E'.1[k]?).map kstrip := fun k => by
    rw [← List.getElem?_map, ← List.getElem?_map, h1]
  have hB : xB E lo xt = xB E' lo xt' := by
    funext k a
    unfold xB
    rw [h2, hx]
    have := hk k
    cases c1 : E.1[k]? with
    | none =>
      rw [c1] at this
      cases c2 : E'.1[k]? with
      | none => rfl
      | some y => rw [c2] at this; cases this
    | some x =>
      rw [c1] at this
      cases c2 : E'.1[k]? with
      | none => rw [c2] at this; cases this
      | some y => rfl
  intro i k hi
  obtain ⟨κ, a, b⟩ := h i k (by rw [h2]; exact hi)
  have := hk k
  rw [a] at this
  cases c2 : E'.1[k]? with
  | none => rw [c2] at this; cases this
  | some κ' =>
    rw [c2] at this
    simp only [Option.map_some, Option.some.injEq] at this
    refine ⟨κ', rfl, ?_⟩
    rw [← cok_strip, ← this, cok_strip, ← hB]
    exact b
theorem El_kd : El.2.1 = Em.2.1 := rfl
theorem El_ks : El.1.map kstrip = Em.1.map kstrip := rfl
theorem typ_lm {f1 f : Nat → va_E} {xt : XX} {t : Nat → ClassId} {lo : Nat} (hx : xt.1 = (xte El f1 t).1) (h : TYP El (xte El f1 t) t lo f) : TYP Em xt t lo f := TYP_strip El_kd El_ks hx.symm h
theorem typ_ml {f1 f : Nat → va_E} {xt : XX} {t : Nat → ClassId} {lo : Nat} (hx : xt.1 = (xte El f1 t).1) (h : TYP Em xt t lo f) : TYP El (xte El f1 t) t lo f := TYP_strip El_kd.symm El_ks.symm hx h
theorem gs_cv {E : XE} {lo : Nat} {f1 f : Nat → va_E} (h : gsame E lo f1 f) {i κ k : Nat} {ps : List (Nat × Nat)} (a : E.2.1[i]? = some κ) (b : xwr E κ = some ps) (c : ∃ q ∈ ps, q.1 ≤ k ∧ k < q.2) : cv f (lo + i) k = cv f1 (lo + i) k := by
  unfold cv
  rw [h.1 i κ k ps a b c]
theorem gbl_ok {f1 : Nat → va_E} {t : Nat → ClassId} {lo : Nat} (hG : GI lo f1) : GB1 El (xte El f1 t) lo := by
  intro f h κ p j q a b hm i o k w v hi hj hw hq hv
  have ei := kdm_eq (show Em.2.1[i]? = some κ from hi)
  subst ei
  have e1 := cv_of hv
  have e2 := cv_of hw
  simp only [gv] at e2
  have c : ∀ (i' k' : Nat) (ps : List (Nat × Nat)), El.2.1[i']? = some i' → xwr El i' = some ps → (∃ q ∈ ps, q.1 ≤ k' ∧ k' < q.2) → cv f (lo + i') k' = cv f1 (lo + i') k' := fun i' k' ps a b c => gs_cv h a b c
  have hBe : ∀ n : Nat, n < 8 → i = 9 → p = 6 * n → j = 33 → q = (n : Int) → a = 1 → b = 10000 → a ≤ gv v ∧ gv v ≤ b := by
    intro n hn h1 h2 h3 h4 h5 h6
    subst h1; subst h2; subst h3; subst h4; subst h5; subst h6
    cases (show (7, 6) = (o, k) from Option.some.inj hj)
    obtain ⟨-, -, -, d, -⟩ := hG.1 0 (by decide)
    simp only [Nat.mul_zero, Nat.zero_add] at d
    rw [c 7 6 _ rfl rfl ⟨(3, 52), by decide, by decide, by decide⟩] at e2
    rw [c 9 (6 * n) _ rfl rfl ⟨(0, 192), by decide, by omega, by show 6 * n < 192; omega⟩] at e1
    rw [← e1]
    exact d n (by rw [e2]; exact hq)
  have hCo : i = 7 → p = 0 → q = 0 → a = 1 → b = 100 → ((o, k) = (6, 0) ∨ (o, k) = (7, 5) ∨ (o, k) = (7, 7)) → a ≤ gv v ∧ gv v ≤ b := by
    intro h1 h2 h3 h4 h5 h6
    subst h1; subst h2; subst h3; subst h4; subst h5
    obtain ⟨-, -, -, -, d⟩ := hG.1 0 (by decide)
    simp only [Nat.mul_zero, Nat.zero_add] at d
    rw [c 7 0 _ rfl rfl ⟨(0, 2), by decide, by decide, by decide⟩] at e1
    rw [← e1]
    rcases d with ⟨c1, c2, c3, -⟩ | ⟨c1, c2, c3⟩
    · exfalso
      rcases h6 with h6 | h6 | h6 <;> cases h6
      · rw [c 6 0 _ rfl rfl ⟨(0, 4), by decide, by decide, by decide⟩] at e2
        omega
      · rw [c 7 5 _ rfl rfl ⟨(3, 52), by decide, by decide, by decide⟩] at e2
        omega
      · rw [c 7 7 _ rfl rfl ⟨(3, 52), by decide, by decide, by decide⟩] at e2
        omega
    · exact ⟨c2, c3⟩
  have hm' : (i, p, j, q, a, b) ∈ gbl := hm
  simp only [gbl, List.mem_cons, List.not_mem_nil, or_false, Prod.mk.injEq] at hm'
  rcases hm' with h | h | h | h | h | h | h | h | h | h | h
  · exact hBe 0 (by decide) h.1 (by omega) h.2.2.1 (by omega) h.2.2.2.2.1 h.2.2.2.2.2
  · exact hBe 1 (by decide) h.1 (by omega) h.2.2.1 (by omega) h.2.2.2.2.1 h.2.2.2.2.2
  · exact hBe 2 (by decide) h.1 (by omega) h.2.2.1 (by omega) h.2.2.2.2.1 h.2.2.2.2.2
  · exact hBe 3 (by decide) h.1 (by omega) h.2.2.1 (by omega) h.2.2.2.2.1 h.2.2.2.2.2
  · exact hBe 4 (by decide) h.1 (by omega) h.2.2.1 (by omega) h.2.2.2.2.1 h.2.2.2.2.2
  · exact hBe 5 (by decide) h.1 (by omega) h.2.2.1 (by omega) h.2.2.2.2.1 h.2.2.2.2.2
  · exact hBe 6 (by decide) h.1 (by omega) h.2.2.1 (by omega) h.2.2.2.2.1 h.2.2.2.2.2
  · exact hBe 7 (by decide) h.1 (by omega) h.2.2.1 (by omega) h.2.2.2.2.1 h.2.2.2.2.2
  · refine hCo h.1 h.2.1 h.2.2.2.1 h.2.2.2.2.1 h.2.2.2.2.2 (Or.inl ?_)
    obtain ⟨-, -, rfl, -⟩ := h
    exact (Option.some.inj hj).symm
  · refine hCo h.1 h.2.1 h.2.2.2.1 h.2.2.2.2.1 h.2.2.2.2.2 (Or.inr (Or.inl ?_))
    obtain ⟨-, -, rfl, -⟩ := h
    exact (Option.some.inj hj).symm
  · refine hCo h.1 h.2.1 h.2.2.2.1 h.2.2.2.2.1 h.2.2.2.2.2 (Or.inr (Or.inr ?_))
    obtain ⟨-, -, rfl, -⟩ := h
    exact (Option.some.inj hj).symm
theorem twxl {f1 : Nat → va_E} {t : Nat → ClassId} {lo : Nat} (hG : GI lo f1) : TWX El (xte El f1 t) lo ∧ STok El (xte El f1 t) t := ⟨⟨twl, pge El f1 t lo, gbl_ok hG⟩, ste (by decide +kernel)⟩
def fndB (o : XO) : Bool := (List.range 10).any (fun n => decide (o.1[10]? = some ((n : Int), (n : Int))) && decide (o.2.2.1[5]? = some (pI ((n : Int) + 1) ((n : Int) + 1))) && decide (o.2.2.1[34 + n]? = some (pE 1 0)) && keepx 5 o.2.2.1 [5, 34 + n] && decide (o.2.2.1.length = 44) && o.2.1.isNone)
theorem fnd_all : Ml1.2.2.1.all fndB = true := by decide +kernel
def bgB (o : XO) : Bool := (List.range 9).any (fun n => decide (o.1[34]? = some ((n : Int), (n : Int))) && decide (o.2.2.1[5]? = some (pI (n : Int) (n : Int))) && decide (o.2.2.1[6]? = some (pI 0 0)) && decide (o.2.2.1[7]? = some (pI 0 9)) && decide (o.2.2.1[33]? = some (pI (n : Int) (n : Int))) && (List.range n).all (fun b => decide (o.2.2.1[34 + b]? = some (pI 1 10000))) && keepx 1 o.2.2.1 ([5, 6, 7, 33] ++ (List.range n).map (fun b => 34 + b)) && decide (o.2.2.1.length = 44) && o.2.1.isNone)
theorem bg_all : Ml24.2.2.1.all bgB = true := by decide +kernel
theorem mel_all : Ml15.2.2.1.all (fun o => keepx 2 o.2.2.1 [] && decide (o.2.2.1.length = 44) && o.2.1.isNone) = true := by decide +kernel
theorem goe_all : Ml10.2.2.1.all (fun o => keepx 1 o.2.2.1 [6, 7] && decide (o.2.2.1[6]? = some (pE 7 1)) && decide (o.2.2.1[7]? = some (pI 0 9)) && decide (o.2.2.1.length = 44) && o.2.1.isNone) = true := by decide +kernel
/-- V's bounds inside lays -/
def VLg : List XP := Ml24.2.1.set 6 (pI 0 40)
theorem V_mel : Ml15.2.1 = VLg.set 11 (pI 1 1401) := by decide +kernel
theorem V_goe : Ml10.2.1 = (VLg.set 11 (pI 1 1401)).set 6 (pI 0 39) := by decide +kernel
theorem V_fnd : Ml1.2.1 = (VLg.set 11 (pI 1 1401)).set 5 (pI 0 9) := by decide +kernel
theorem V_bg : Ml24.2.1 = Mm6.2.1 ++ (pI 0 8 :: List.replicate 10 (pI (-1) 10000)) := by decide +kernel
theorem OOK_none {E : XE} {xt : XX} {lo : Nat} {G0 : List Int} {o : XO} {ov : Option Value} {f : Nat → va_E} (h : OOK E xt lo G0 o ov f) (hn : o.2.1.isNone = true) : ov = none := by
  obtain ⟨-, h2, -⟩ := h
  rw [Option.isNone_iff_eq_none.mp hn] at h2
  cases ov with
  | none => rfl
  | some v => exact h2.elim
