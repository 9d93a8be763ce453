/-! what holds of the reference between calls; public methods that were checked -/
def IM (t : Nat → ClassId) (lo : Nat) (f : Nat → va_E) : Prop := TYP Em (xtm (fun _ _ _ => True) t) t lo f ∧ GI lo f ∧ VB Em lo Mm6.2.1 f
/-- rows and images are as they were -/
def KP (lo : Nat) (f f2 : Nat → va_E) : Prop := (∀ k, k < 4 → cv f2 (lo + 1) k = cv f (lo + 1) k) ∧ (∀ k, k < 4 → cv f2 (lo + 2) k = cv f (lo + 2) k) ∧ ∀ k, k < 3 → cv f2 (lo + 13) k = cv f (lo + 13) k
def RTy (rt : Nat) (ov : Option Value) : Prop := if rt = 2 then ∃ i : Int64, ov = some (.long i) else ∃ i : Int32, ov = some (.int i)
abbrev PZ (rt : Nat) (t : Nat → ClassId) (lo : Nat) (f : Nat → va_E) : Option Value → (Nat → va_E) → Prop := fun ov f2 => RTy rt ov ∧ IM t lo f2 ∧ KP lo f f2
def inb (P : XP) (u w : Int) : Bool := match P with
  | .inl (.inl (a, b)) => decide (a ≤ u) && decide (w ≤ b)
  | _ => false
def exj (o : XO) (P : XP) (Q : XP) : Bool := match Q with
  | .inl (.inl (u, w)) => inb P u w
  | .inr (.inr (.inl (some g, c))) => match o.1[g]? with
    | some (u, w) => inb P (u + c) (w + c)
    | none => false
  | _ => false
def exL (o : XO) : List XP → List XP → Bool
  | [], _ => true
  | P :: ps, Q :: qs => exj o P Q && exL o ps qs
  | _ :: _, [] => false
theorem exL_at {o : XO} : ∀ {ps qs : List XP} {j : Nat} {P : XP}, exL o ps qs = true → ps[j]? = some P → ∃ Q, qs[j]? = some Q ∧ exj o P Q = true
  | P' :: ps, Q :: qs, 0, P, h, hp => by
    simp only [exL, Bool.and_eq_true] at h
    simp only [List.getElem?_cons_zero, Option.some.injEq] at hp
    subst hp
    exact ⟨Q, rfl, h.1⟩
  | P' :: ps, Q :: qs, j + 1, P, h, hp => by
    simp only [exL, Bool.and_eq_true] at h
    obtain ⟨Q', a, b⟩ := exL_at (j := j) h.2 (by simpa using hp)
    exact ⟨Q', by simpa using a, b⟩
  | [], _, _, _, _, hp => by simp at hp
  | _ :: _, [], _, _, h, _ => by simp [exL] at h
theorem inb_ok {P : XP} {u w : Int} (h : inb P u w = true) : ∃ a b, P = pI a b ∧ a ≤ u ∧ w ≤ b := by
  match P, h with
  | .inl (.inl (a, b)), h =>
    simp only [inb, Bool.and_eq_true, decide_eq_true_eq] at h
    exact ⟨a, b, rfl, h.1, h.2⟩
theorem VB_exit {E : XE} {xt : XX} {lo : Nat} {G0 : List Int} {o : XO} {ov : Option Value} {f : Nat → va_E} {ps : List XP} (h : OOK E xt lo G0 o ov f) (hx : exL o ps o.2.2.1 = true) : VB E lo ps f := by
  intro j a k P hj hP
  obtain ⟨Q, q1, q2⟩ := exL_at hx hP
  match Q, q1, q2 with
  | .inl (.inl (u, w)), q1, q2 =>
    obtain ⟨x, y, e1, e2, e3⟩ := inb_ok (show inb P u w = true from q2)
    obtain ⟨i, a1, a2, a3, a4⟩ := out_box h hj q1
    exact ⟨i, x, y, a1, e1, by omega, by omega⟩
  | .inr (.inr (.inl (some g, c))), q1, q2 =>
    simp only [exj] at q2
    cases hg : o.1[g]? with
    | none => rw [hg] at q2; cases q2
    | some uw =>
      obtain ⟨u, w⟩ := uw
      rw [hg] at q2
      obtain ⟨x, y, e1, e2, e3⟩ := inb_ok q2
      obtain ⟨v, a1, i, rfl, a2⟩ := out_at h hj q1
      cases hz : G0[g]? with
      | none => simp [xval, hz] at a2
      | some z =>
        simp only [xval, hz, Option.map_some, Option.some.injEq] at a2
        have := h.1 g u w z hg hz
        exact ⟨i, x, y, a1, e1, by omega, by omega⟩
def ansB (rt : Nat) (o : XO) : Bool := match o.2.1 with
  | some (.inl (.inl _)) => rt != 2
  | some (.inr (.inr (.inl _))) => rt != 2
  | some (.inl (.inr _)) => rt == 2
  | some (.inr (.inr (.inr _))) => rt == 2
  | _ => false
theorem ansB_ok {E : XE} {xt : XX} {lo rt : Nat} {G0 : List Int} {o : XO} {ov : Option Value} {f : Nat → va_E} (h : OOK E xt lo G0 o ov f) (hb : ansB rt o = true) : RTy rt ov := by
  obtain ⟨-, h2, -⟩ := h
  unfold ansB at hb
  unfold RTy
  cases ho : o.2.1 with
  | none => rw [ho] at hb; cases hb
  | some P =>
    rw [ho] at hb h2
    cases ov with
    | none => exact h2.elim
    | some v =>
      match P, hb, h2 with
      | .inl (.inl (a, b)), hb, ⟨i, e, _⟩ =>
        have : rt ≠ 2 := by simpa using hb
        rw [if_neg this, e]; exact ⟨i, rfl⟩
      | .inr (.inr (.inl n)), hb, ⟨i, e, _⟩ =>
        have : rt ≠ 2 := by simpa using hb
        rw [if_neg this, e]; exact ⟨i, rfl⟩
      | .inl (.inr (a, b)), hb, ⟨i, e, _⟩ =>
        have : rt = 2 := by simpa using hb
        rw [if_pos this, e]; exact ⟨i, rfl⟩
      | .inr (.inr (.inr n)), hb, ⟨i, e, _⟩ =>
        have : rt = 2 := by simpa using hb
        rw [if_pos this, e]; exact ⟨i, rfl⟩
def Xsame (lo : Nat) (f : Nat → va_E) : XK3 := fun a b k => a = f (lo + 2) ∧ b = f (lo + 3) ∧ k = kpt (f (lo + 13))
theorem IM_xt {t : Nat → ClassId} {lo : Nat} {f : Nat → va_E} (h : IM t lo f) : (xtm (Xsame lo f) t).2 lo f := by
  refine ⟨⟨h.2.1, ?_⟩, rfl, rfl, rfl⟩
  obtain ⟨i, a1, a2, a3, a4⟩ := VB_at h.2.2 (show Em.2.2.2[5]? = some (0, 24) from rfl) (show Mm6.2.1[5]? = some (pI 0 10) from rfl)
  rw [show lo + 0 = lo from rfl] at a2
  omega
theorem pub_of {l : Launch} {D : va_G} {t : Nat → ClassId} {lo rt : Nat} {f : Nat → va_E} {Y : XY} {M : XM} {vs : List Value} {zs : List Int} (hI : IM t lo f) (H : HOLDS l Em (xtm (Xsame lo f) t) D t lo Y M) (hV : M.2.1 = Mm6.2.1) (hr : M.2.2.2 = []) (hx : M.2.2.1.all (fun o => exL o Mm6.2.1 o.2.2.1 && ansB rt o) = true) (ha : AOK (xB Em lo (xtm (Xsame lo f) t)) M.1 vs zs) : MetZ l Y D t lo 17 f vs (PZ rt t lo f) := by
  have hVm : VB Em lo M.2.1 f := by rw [hV]; exact hI.2.2
  have hl : Em.2.2.2.length = M.2.1.length := by rw [hV]; rfl
  refine MetZ.mono (MetZ.ofX H (ent_of hl hVm ha hr) hI.1 (IM_xt hI)) (fun ov f2 hz => ?_)
  obtain ⟨o, ho, hO, hT, hF⟩ := hz
  have hb := List.all_eq_true.mp hx o ho
  rw [Bool.and_eq_true] at hb
  obtain ⟨⟨⟨G, -⟩, x1, x2, x3⟩, -⟩ := And.intro hF.2 trivial
  have e1 := hF.1 1 1 rfl rfl
  refine ⟨ansB_ok hO hb.2, ⟨hT, G, VB_exit hO hb.1⟩, fun k _ => ?_, fun k _ => ?_, fun k hk => ?_⟩
  · unfold cv
    rw [e1]
  · unfold cv
    rw [x1]
  · have := congrFun x3 k
    unfold kpt at this
    rw [if_pos hk, if_pos hk] at this
    unfold cv
    rw [this]
