/-! what holds of the class between calls; public methods that were checked -/
def xtc (t : Nat → ClassId) (lo : Nat) : XX := (fun k a => (k = 1000 ∧ (a = lo + 16 ∨ a = lo + 72)) ∨ (2000 ≤ k ∧ k < 2019 ∧ a = t (100 + (k - 2000))), fun _ _ => True)
theorem twxc (b : Bool) (t : Nat → ClassId) (lo : Nat) : TWX (Ec b) (xtc t lo) lo ∧ STok (Ec b) (xtc t lo) t := by
  refine ⟨⟨twc b, fun _ _ _ _ _ => trivial, fun f h κ p j q a b' hm => by cases hm⟩, show Kc.length ≤ 2000 by decide +kernel, fun n hn a => ?_⟩
  show ((2000 + n = 1000 ∧ _) ∨ (2000 ≤ 2000 + n ∧ 2000 + n < 2019 ∧ a = t (100 + (2000 + n - 2000)))) ↔ a = t (100 + n)
  rw [show 2000 + n - 2000 = n by omega]
  exact ⟨fun h => by rcases h with h | h; exact absurd h.1 (by omega); exact h.2.2, fun h => Or.inr ⟨by omega, by omega, h⟩⟩
/-- what V tells, within bounds or of a kind -/
def VR (E : XE) (xt : XX) (lo : Nat) (ps : List XP) (f : Nat → va_E) : Prop := ∀ (j o k : Nat) (P : XP), E.2.2.2[j]? = some (o, k) → ps[j]? = some P → ∃ v, cellv (f (lo + o)) k = some v ∧ pok (xB E lo xt) P v (gv v)
theorem aok_vr {B : Nat → Nat → Prop} {lo : Nat} {f : Nat → va_E} : ∀ (ts : List (Nat × Nat)) (ps : List XP), ts.length = ps.length → (∀ (j o k : Nat) (P : XP), ts[j]? = some (o, k) → ps[j]? = some P → ∃ v, cellv (f (lo + o)) k = some v ∧ pok B P v (gv v)) → AOK B ps (ts.map (fun q => (cellv (f (lo + q.1)) q.2).getD (.int 0))) (ts.map (fun q => cv f (lo + q.1) q.2))
  | [], [], _, _ => trivial
  | (o, k) :: ts, P :: ps, hl, h => by
    obtain ⟨v, h1, h2⟩ := h 0 o k P rfl rfl
    refine ⟨?_, aok_vr ts ps (by simpa using hl) (fun j o k P a b => h (j + 1) o k P (by simpa using a) (by simpa using b))⟩
    show pok B P ((cellv (f (lo + o)) k).getD (.int 0)) (cv f (lo + o) k)
    rw [cv_of h1, h1]
    exact h2
  | [], _ :: _, hl, _ => by simp at hl
  | _ :: _, [], hl, _ => by simp at hl
theorem ent_ofR {E : XE} {xt : XX} {lo : Nat} {M : XM} {vs : List Value} {zs : List Int} {f : Nat → va_E} (hl : E.2.2.2.length = M.2.1.length) (hV : VR E xt lo M.2.1 f) (ha : AOK (xB E lo xt) M.1 vs zs) (hr : M.2.2.2 = []) : ENT E xt lo M vs (zs ++ cvs E lo f) f := by
  refine ⟨E.2.2.2.map (fun q => (cellv (f (lo + q.1)) q.2).getD (.int 0)), fun j o k v a b => ?_, AOK_app ha (aok_vr _ _ hl hV), (AOK_len ha).2, by rw [hr]; intro q hq; cases hq⟩
  rw [List.getElem?_map, a] at b
  simp only [Option.map_some, Option.some.injEq] at b
  have hlt : j < M.2.1.length := by rw [← hl]; exact (List.getElem?_eq_some_iff.mp a).1
  obtain ⟨v', h1, -⟩ := hV j o k _ a (List.getElem?_eq_getElem hlt)
  rw [h1] at b ⊢
  exact congrArg some b
def exjR (o : XO) (P Q : XP) : Bool := match P, Q with
  | .inr (.inl k), .inr (.inl k') => k == k'
  | P, Q => exj o P Q
def exLR (o : XO) : List XP → List XP → Bool
  | [], _ => true
  | P :: ps, Q :: qs => exjR o P Q && exLR o ps qs
  | _ :: _, [] => false
theorem exLR_at {o : XO} : ∀ {ps qs : List XP} {j : Nat} {P : XP}, exLR o ps qs = true → ps[j]? = some P → ∃ Q, qs[j]? = some Q ∧ exjR o P Q = true
  | P' :: ps, Q :: qs, 0, P, h, hp => by
    simp only [exLR, Bool.and_eq_true] at h
    simp only [List.getElem?_cons_zero, Option.some.injEq] at hp
    subst hp
    exact ⟨Q, rfl, h.1⟩
  | P' :: ps, Q :: qs, j + 1, P, h, hp => by
    simp only [exLR, Bool.and_eq_true] at h
    obtain ⟨Q', a, b⟩ := exLR_at (j := j) h.2 (by simpa using hp)
    exact ⟨Q', by simpa using a, b⟩
  | [], _, _, _, _, hp => by simp at hp
  | _ :: _, [], _, _, h, _ => by simp [exLR] at h
theorem exj_ok {E : XE} {xt : XX} {lo : Nat} {G0 : List Int} {o : XO} {ov : Option Value} {f : Nat → va_E} (h : OOK E xt lo G0 o ov f) {j a k : Nat} {P Q : XP} (hj : E.2.2.2[j]? = some (a, k)) (q1 : o.2.2.1[j]? = some Q) (q2 : exj o P Q = true) : ∃ v, cellv (f (lo + a)) k = some v ∧ pok (xB E lo xt) P v (gv v) := by
  match Q, q1, q2 with
  | .inl (.inl (u, w)), q1, q2 =>
    obtain ⟨x, y, e1, e2, e3⟩ := inb_ok (show inb P u w = true from q2)
    obtain ⟨i, a1, a2, a3, a4⟩ := out_box h hj q1
    subst e1
    exact ⟨_, a1, i, rfl, rfl, by show x ≤ i.toInt; omega, by show i.toInt ≤ y; omega⟩
  | .inr (.inr (.inl (some g, c))), q1, q2 =>
    simp only [exj] at q2
    cases hg : o.1[g]? with
    | none => rw [hg] at q2; cases q2
    | some uw =>
      obtain ⟨u, w⟩ := uw
      rw [hg] at q2
      obtain ⟨x, y, e1, e2, e3⟩ := inb_ok q2
      obtain ⟨v, a1, i, rfl, a2⟩ := out_at h hj q1
      cases hz : G0[g]? with
      | none => simp [xval, hz] at a2
      | some z =>
        simp only [xval, hz, Option.map_some, Option.some.injEq] at a2
        have := h.1 g u w z hg hz
        subst e1
        exact ⟨_, a1, i, rfl, rfl, by show x ≤ i.toInt; omega, by show i.toInt ≤ y; omega⟩
theorem VR_exit {E : XE} {xt : XX} {lo : Nat} {G0 : List Int} {o : XO} {ov : Option Value} {f : Nat → va_E} {ps : List XP} (h : OOK E xt lo G0 o ov f) (hx : exLR o ps o.2.2.1 = true) : VR E xt lo ps f := by
  intro j a k P hj hP
  obtain ⟨Q, q1, q2⟩ := exLR_at hx hP
  match P, Q, q1, q2 with
  | .inr (.inl κ), .inr (.inl κ'), q1, q2 =>
    have e : κ = κ' := by simpa [exjR] using q2
    subst e
    obtain ⟨v, a1, b, rfl, hB⟩ := out_at h hj q1
    exact ⟨_, a1, ⟨b, rfl, hB⟩, rfl⟩
  | .inl (.inl p), Q, q1, q2 => exact exj_ok h hj q1 (by simpa [exjR] using q2)
  | .inl (.inr p), Q, q1, q2 => exact exj_ok h hj q1 (by simpa [exjR] using q2)
  | .inr (.inr p), Q, q1, q2 => exact exj_ok h hj q1 (by simpa [exjR] using q2)
  | .inr (.inl κ), .inl (.inl p), q1, q2 => exact exj_ok h hj q1 (by simpa [exjR] using q2)
  | .inr (.inl κ), .inl (.inr p), q1, q2 => exact exj_ok h hj q1 (by simpa [exjR] using q2)
  | .inr (.inl κ), .inr (.inr p), q1, q2 => exact exj_ok h hj q1 (by simpa [exjR] using q2)
